/**
 * What a call that is refused leaves as it is: all but its count, the tape that street(), see() and on() take,
 * and what fault() tells of street(). What ask() leaves, which is counted by none. A call that only tells changes nothing.
 */
final class RefusedTest {
    private static final int LEAST = Integer.MIN_VALUE;
    private static final int MOST = Integer.MAX_VALUE;
    private static final String STREET = "street 7;person p at 1 trust 3;person q at 5 trust 8;lie a of p;lie b of q;lie c of q;lie d of p;"
            + "hangs c on a;light d at 9 for 20;tallow 300;gust 40;drafts place-hour/3;burns 1+near;believes inches>1;";

    private interface Call {
        long of(LieCandles x);
    }

    public static void main(String[] args) {
        Due t = new Due();
        tapeCalls(t);
        tapeGoes(t);
        askTells(t);
        askWithoutStreet(t);
        textCalls(t);
        acts(t);
        hourCalls(t);
        undo(t);
        seedAndOn(t);
        tellingCalls(t);
        t.close();
    }

    /** A street in the middle of its HOURS: lies lit and OUT, some KEPT, rows SEEN, ACTS, an image, a FAULT, refusals. */
    private static LieCandles scene() {
        LieCandles x = new LieCandles();
        Due.feedText(x, STREET);
        x.street();
        x.seed(99);
        x.light(0, 2);
        x.light(1, 40);
        x.hours(2);
        x.light(2, 30);
        x.move(0, 2);
        x.buy(7);
        x.image();
        x.chance(1);
        Due.feedBytes(x, 0, 0, 0, 3, 5, 2);
        x.see();
        Due.feedText(x, "most wax ?");
        x.ask();
        for (int kind = 0; kind < 3; kind++) {
            x.end(-1);
            x.seed(-1);
        }
        return x;
    }

    /** All that can be told without changing anything, but what status() tells. */
    private static String told(LieCandles x) {
        StringBuilder b = new StringBuilder();
        for (int what = 0; what <= 10; what++) {
            b.append(x.has(what)).append(' ');
        }
        b.append('|').append(x.fault(0)).append(' ').append(x.fault(1)).append('|');
        for (int p = 0; p < 2; p++) {
            b.append(x.letter(0, p, 0)).append(' ').append(x.person(p, 0)).append(' ').append(x.person(p, 2)).append(' ');
        }
        for (int l = 0; l < 4; l++) {
            b.append('|').append(x.letter(1, l, 0)).append(' ').append(x.odds(l)).append(' ').append(x.inches(l, -1));
            for (int what = 0; what < 7; what++) {
                b.append(' ').append(x.lie(l, what));
            }
            for (int n = 0; n < 12; n += 3) {
                b.append(' ').append(x.later(l, n)).append(' ').append(x.held(l, n));
            }
        }
        for (int k = 0; k <= x.has(8); k++) {
            b.append('|').append(x.kept(k, 0)).append(' ').append(x.kept(k, 1));
        }
        for (int k = 0; k < 16; k++) {
            b.append(' ').append(x.octet(k));
        }
        return b.append('|').append(x.plan(0, 1)).append(' ').append(x.draft(6, 0)).toString();
    }

    /** What the seed and the ACTS behind it bring. */
    private static String goesOn(LieCandles x) {
        StringBuilder b = new StringBuilder();
        for (int k = 0; k < 10; k++) {
            b.append(x.chance(1)).append(' ').append(x.has(6)).append(' ');
        }
        while (x.undo()) {
            b.append('|').append(x.has(4)).append(' ').append(x.has(5)).append(' ').append(x.has(6)).append(' ').append(x.has(8));
        }
        return b.toString();
    }

    /**
     * The call answers this, is counted, if it is of a kind, and leaves all but the tape (and fault()) as it was;
     * tape: what is fed ahead of it.
     */
    private static void due(Due t, String name, int kind, long answer, int[] tape, Call call) {
        t.sentence(kind < 0 ? "(what only tells changes nothing)" : "37. How many were refused: " + kind + "; all stays");
        LieCandles untouched = scene();
        LieCandles x = scene();
        Due.feedBytes(x, tape);
        t.due(name, answer, call.of(x));
        for (int k = 0; k < 6; k++) {
            t.due("status(" + k + ") behind " + name, untouched.status(k) + (k == kind ? 1 : 0), x.status(k));
        }
        same(t, name, told(untouched), told(x));
        same(t, "what comes behind " + name, goesOn(untouched), goesOn(x));
    }

    private static void same(Due t, String name, String want, String got) {
        boolean is = want.equals(got);
        t.due(name + " leaves this as it was", true, is);
        if (!is) {
            System.out.println("  " + want + "\n  " + got);
        }
    }

    private static int[] bytes(String text) {
        int[] all = new int[text.length()];
        for (int k = 0; k < all.length; k++) {
            all[k] = text.charAt(k);
        }
        return all;
    }

    private static long is(boolean b) {
        return b ? 1 : 0;
    }

    private static void tapeCalls(Due t) {
        due(t, "end(-1)", 0, 0, new int[0], x -> is(x.end(-1)));
        due(t, "end(1)", 0, 0, new int[0], x -> is(x.end(1)));
        due(t, "end(least)", 0, 0, new int[0], x -> is(x.end(LEAST)));
        due(t, "feed() to 1620", 0, -1, new int[1600], x -> x.feed(1, 2, 3, 4, 5));
        due(t, "feed() to 1601", 0, -1, new int[1581], x -> x.feed(1, 2, 3, 4, 5));
        t.sentence("2, 3. refused (0): the tape stays");
        LieCandles x = t.x;
        Due.feedText(x, "street 2;");
        t.due("end(10)", false, x.end(10));
        t.due("end(-1)", false, x.end(-1));
        t.due("street()", 1, x.street());
        Due.feedText(x, "street 3;" + " ".repeat(1580));
        t.due("feed() beyond", -1, x.feed(-1, -1, -1, -1, -1));
        t.due("street()", 1, x.street());
        t.due("has(0)", 3, x.has(0));
    }

    /** The tape of a call that is refused, or of ask(), has no byte left: behind it one alone can be fed and taken. */
    private static void tapeGoes(Due t) {
        Call[] takers = {x -> x.street(), x -> x.see(), x -> is(x.on()), x -> x.ask()};
        String[] promises = {"4. street(): The tape (it goes)", "22. see(): The tape (it goes)", "36. on(): The tape (it goes)",
            "33. ask(): The tape (it goes)"};
        for (int k = 0; k < takers.length; k++) {
            for (boolean street : new boolean[] {true, false}) {
                t.sentence(promises[k] + (street ? "" : ", without a street, too"));
                if (street) {
                    t.street(STREET, 14);
                }
                long[] none = {-1, -1, 0, LieCandles.NOTHING};
                t.tape("?????");
                t.due("taken", none[k], takers[k].of(t.x));
                t.due("end(1)", false, t.x.end(1));
                t.due("feed()", 20, t.x.feed(0x73747265, 0x65742032, 0x3b202020, 0x20202020, 0x20202020));
                t.due("street()", 1, t.x.street());
            }
        }
        for (int length : new int[] {0, 1, 20, 1600}) {
            t.sentence("2, 3. feed() and end(), refused, leave the tape (" + length + " bytes)");
            t.tape(new int[length]);
            t.due("end() beyond", false, t.x.end(length + 1));
            t.due("end(-1)", false, t.x.end(-1));
            t.due("feed() beyond", length == 1600 ? -1 : length + 20, t.x.feed(0, 0, 0, 0, 0));
            t.due("end()", true, t.x.end(length));
        }
    }

    private static void askTells(Due t) {
        t.sentence("33, 5, 37. NOTHING with a FAULT: fault() tells it, no number of status() counts it");
        LieCandles untouched = scene();
        LieCandles x = scene();
        String[] faulty = {"most wax ?", "", "first", "often 3", "total 12345", "least ((((((((1", "most x", "last all all"};
        for (String text : faulty) {
            Due.feedText(x, text);
            t.due("ask() of " + text, LieCandles.NOTHING, x.ask());
            t.due("fault(0) of " + text, text.startsWith("least") ? 4 : 1, x.fault(0));
        }
        t.due("fault(1)", 9, x.fault(1));
        dueCounts(t, untouched, x);
        Due.feedText(x, "most wax ?");
        x.ask();
        same(t, "ask() with a FAULT", told(untouched), told(x));
        same(t, "what comes behind ask() with a FAULT", goesOn(untouched), goesOn(x));
    }

    private static void askWithoutStreet(Due t) {
        t.sentence("33, 5, 37. NOTHING without a street (the tape goes, nothing else is done, fault() stays)");
        LieCandles untouched = t.x;
        for (String text : new String[] {"often all", "most ?", ""}) {
            LieCandles x = new LieCandles();
            Due.feedText(x, text);
            t.due("ask() of " + text, LieCandles.NOTHING, x.ask());
            dueCounts(t, untouched, x);
            same(t, "ask() without a street", told(untouched), told(x));
        }
        Due.feedText(t.x, "street 2;street");
        t.x.street();
        Due.feedText(t.x, "often all");
        t.due("ask()", LieCandles.NOTHING, t.x.ask());
        t.due("fault(0) of street() stays", 1, t.x.fault(0));
        t.due("fault(1) of street() stays", 9, t.x.fault(1));
        t.due("status(1)", 1, t.x.status(1));
    }

    private static void dueCounts(Due t, LieCandles untouched, LieCandles x) {
        for (int k = 0; k < 6; k++) {
            t.due("status(" + k + ")", untouched.status(k), x.status(k));
        }
    }

    private static void textCalls(Due t) {
        String[] faulty = {"", " ", "?", "street 1;", "street 2;street 2;", "street 2;gust 101;", "street 3;person p at 0 trust 1;lie x of q;",
            "street 3;drafts ((((((((1))))))));", "street 3;drafts 1;drafts 1;", "street 30;tallow 5;gust 5;burns 5;believes 1=2;person"};
        for (String text : faulty) {
            t.sentence("4. NONE, refused (1), with a FAULT (all stays)");
            LieCandles untouched = scene();
            LieCandles x = scene();
            Due.feedText(x, text);
            t.due("street() of " + text, -1, x.street());
            t.due("fault(0) of " + text, true, x.fault(0) > 0);
            for (int k = 0; k < 6; k++) {
                t.due("status(" + k + ") behind " + text, untouched.status(k) + (k == 1 ? 1 : 0), x.status(k));
            }
            // Both have the same FAULT then.
            Due.feedText(untouched, "most ?");
            Due.feedText(x, "most ?");
            t.due("ask()", untouched.ask(), x.ask());
            same(t, "street() of " + text, told(untouched), told(x));
            same(t, "what comes behind street() of " + text, goesOn(untouched), goesOn(x));
        }
        int[][] none = {{}, {1}, {1, 1}, {1, 1, 1, 1}, {31, 0, 0}, {0, 7, 0}, {0, 0, 9}, {0, 0, 0, 0, 0, 9}, new int[51]};
        for (int[] row : none) {
            due(t, "see() of " + java.util.Arrays.toString(row), 1, -1, row, x -> x.see());
        }
    }

    private static void acts(Due t) {
        int[] no = {};
        int[] far = {LEAST, -1, 4, 8, MOST};
        for (int l : far) {
            due(t, "light(" + l + ", 1)", 2, 0, no, x -> is(x.light(l, 1)));
            due(t, "snuff(" + l + ")", 2, -1, no, x -> x.snuff(l));
        }
        for (int n : new int[] {LEAST, -1, 0, 100, 999, MOST}) {
            due(t, "light(0, " + n + ")", 2, 0, no, x -> is(x.light(0, n)));
        }
        due(t, "light(1, 1), lit", 2, 0, no, x -> is(x.light(1, 1)));
        due(t, "snuff(0), not lit", 2, -1, no, x -> x.snuff(0));
        for (int p : new int[] {LEAST, -1, 2, 6, MOST}) {
            due(t, "move(" + p + ", 0)", 2, 0, no, x -> is(x.move(p, 0)));
        }
        for (int w : new int[] {LEAST, -1, 2, 7, 30, MOST}) {
            due(t, "move(0, " + w + ")", 2, 0, no, x -> is(x.move(0, w)));
        }
        for (int n : new int[] {LEAST, -1, 0, 1000, MOST}) {
            due(t, "buy(" + n + ")", 2, -1, no, x -> x.buy(n));
        }
    }

    private static void hourCalls(Due t) {
        int[] no = {};
        for (int n : new int[] {LEAST, -1, 0, 101, 999, 1000, MOST}) {
            due(t, "hours(" + n + ")", 3, -1, no, x -> x.hours(n));
            due(t, "chance(" + n + ")", 3, -1, no, x -> x.chance(n));
        }
    }

    private static void undo(Due t) {
        t.sentence("31. false, refused (4), when none can be");
        LieCandles x = scene();
        LieCandles untouched = scene();
        while (untouched.has(10) > 0) {
            untouched.undo();
            x.undo();
        }
        t.due("undo()", false, x.undo());
        t.due("status(4)", 1, x.status(4));
        same(t, "undo()", told(untouched), told(x));
        same(t, "what comes behind undo()", goesOn(untouched), goesOn(x));
    }

    private static int[] checked(int... bytes) {
        int[] all = java.util.Arrays.copyOf(bytes, bytes.length + 1);
        int c = 167;
        for (int b : bytes) {
            c = (3 * c + b) % 251;
        }
        all[bytes.length] = c;
        return all;
    }

    private static void seedAndOn(Due t) {
        due(t, "seed(-1)", 5, 0, new int[0], x -> is(x.seed(-1)));
        due(t, "seed(least)", 5, 0, new int[0], x -> is(x.seed(LEAST)));
        int[] good = {0, 1, 0, 1, 6, 6, 1, 1, 0, 0, 99, 99, 0, 0};
        int[][] wrong = {{0, 4}, {1, 232, 0, 3}, {2, 4}, {3, 232, 2, 3}, {4, 7}, {5, 255}, {6, 100}, {7, 100}, {8, 0, 9, 1}, {12, 1, 13, 100}};
        for (int[] w : wrong) {
            int[] bytes = good.clone();
            for (int k = 0; k < w.length; k += 2) {
                bytes[w[k]] = w[k + 1];
            }
            due(t, "on() of " + java.util.Arrays.toString(bytes), 5, 0, checked(bytes), x -> is(x.on()));
        }
        due(t, "on() without its last byte", 5, 0, good, x -> is(x.on()));
        due(t, "on() of no byte", 5, 0, new int[0], x -> is(x.on()));
        due(t, "on() of one LIE more", 5, 0, checked(java.util.Arrays.copyOf(good, 16)), x -> is(x.on()));
        int[] off = checked(good);
        off[14] = (off[14] + 1) % 251;
        due(t, "on() with another last byte", 5, 0, off, x -> is(x.on()));
        t.sentence("36. (the good one of these is taken)");
        LieCandles x = scene();
        Due.feedBytes(x, checked(good));
        t.due("on()", true, x.on());
    }

    private static void tellingCalls(Due t) {
        int[] no = {};
        for (int k : new int[] {LEAST, -1, 0, 1, 2, 3, 5, 7, 8, 30, 40, 60, 99, MOST}) {
            for (int c = 0; c < calls(k).length; c++) {
                Call call = calls(k)[c];
                due(t, "telling call " + c + " of " + k, -1, call.of(scene()), no, call);
            }
        }
        due(t, "ask() without a fault leaves all but fault()", -1, 3, bytes("often number<3 or lit=9"), x -> {
            long told = x.ask();
            Due.feedText(x, "most wax ?");
            x.ask();
            return told;
        });
    }

    private static Call[] calls(int k) {
        return new Call[] {x -> x.has(k), x -> x.fault(k), x -> x.letter(k, 0, 0), x -> x.letter(0, k, 0), x -> x.letter(1, 0, k),
            x -> x.person(k, 0), x -> x.person(0, k), x -> x.lie(k, 3), x -> x.lie(0, k), x -> x.draft(k, 0), x -> x.draft(0, k),
            x -> x.plan(k, 0), x -> x.plan(0, k), x -> x.kept(k, 0), x -> x.kept(0, k), x -> x.later(k, 1), x -> x.later(0, k),
            x -> x.held(k, 1), x -> x.held(1, k), x -> x.out(k), x -> x.trusted(k, 0), x -> x.trusted(1, k), x -> x.shorts(k, 3),
            x -> x.shorts(0, k), x -> x.together(k, 3), x -> x.together(3, k), x -> x.keystone(k, 1), x -> x.keystone(3, k),
            x -> x.change(k, 2), x -> x.change(3, k), x -> x.odds(k), x -> x.inches(k, -1), x -> x.inches(1, k), x -> x.tells(k, 0),
            x -> x.tells(1, k), x -> x.octet(k), x -> x.status(k)};
    }
}
