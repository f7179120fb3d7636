/** Promises 1 to 12, 16, 22, 25 to 32, 37: the bounds of what each call takes; of the others, a LIE that there is not. */
final class BoundCallTest {
    private static final int LEAST = Integer.MIN_VALUE;
    private static final int MOST = Integer.MAX_VALUE;
    private static final String STREET = "street 5;person ann at 0 trust 0;person bob at 4 trust 9;lie a of ann;lie bcdefg of bob;lie c of ann;"
            + "hangs c on a;light a at 3 for 1;light c at 999 for 99;burns 1;";

    public static void main(String[] args) {
        Due t = new Due();
        newObject(t);
        feedRoom(t);
        feedOrder(t);
        end(t);
        endCutsOff(t);
        streetTapeGoes(t);
        streetAnew(t);
        streetFault(t);
        fault(t);
        has(t);
        letter(t);
        person(t);
        lie(t);
        draft(t);
        plan(t);
        kept(t);
        noSuchLie(t);
        trusted(t);
        see(t);
        light(t);
        lightTallow(t);
        snuff(t);
        move(t);
        buy(t);
        buyMost(t);
        hours(t);
        chance(t);
        undo(t);
        undoNewActs(t);
        seed(t);
        status(t);
        t.close();
    }

    private static void newObject(Due t) {
        t.sentence("1. A new object: No street, no lies");
        for (int what = 0; what <= 10; what++) {
            t.due("has(" + what + ")", 0, t.x.has(what));
        }
        t.due("letter", -1, t.x.letter(0, 0, 0));
        t.due("letter", -1, t.x.letter(1, 0, 0));
        t.due("person", -1, t.x.person(0, 0));
        t.due("lie", -1, t.x.lie(0, 0));
        t.due("draft", -1, t.x.draft(0, 0));
        t.due("plan", -1, t.x.plan(0, 0));
        t.due("kept", -1, t.x.kept(0, 0));
        t.due("later", -1, t.x.later(0, 0));
        t.due("held", -1, t.x.held(0, 0));
        t.due("out", -1, t.x.out(0));
        t.due("trusted", -1, t.x.trusted(0, 0));
        t.due("shorts", -1, t.x.shorts(0, 1));
        t.due("together", -1, t.x.together(1, 1));
        t.due("keystone", -1, t.x.keystone(1, 1));
        t.due("change", -1, t.x.change(1, 2));
        t.due("odds", -1, t.x.odds(-1));
        t.due("inches", -1, t.x.inches(0, -1));
        t.due("tells", -1, t.x.tells(0, 0));
        t.due("octet", -1, t.x.octet(0));
        t.due("fault(0)", 0, t.x.fault(0));
        t.due("fault(1)", -1, t.x.fault(1));
        for (int what = 0; what < 6; what++) {
            t.due("status(" + what + ")", 0, t.x.status(what));
        }
        t.due("end(0)", true, t.x.end(0));
        t.due("end(1)", false, t.x.end(1));
    }

    private static void feedRoom(Due t) {
        t.sentence("2. how many there are; NONE, refused (0), if there would be more than 1600");
        for (int k = 1; k <= 79; k++) {
            t.due("feed", 20 * k, t.x.feed(k, k, k, k, k));
        }
        t.due("feed to 1600", 1600, t.x.feed(0, 0, 0, 0, 0));
        t.due("feed beyond", -1, t.x.feed(0, 0, 0, 0, 0));
        t.due("status(0)", 1, t.x.status(0));
        t.due("all 1600 stay", true, t.x.end(1600));
        t.due("end(1599)", true, t.x.end(1599));
        t.due("feed beyond by 19", -1, t.x.feed(0, 0, 0, 0, 0));
        t.due("end(1581)", true, t.x.end(1581));
        t.due("feed beyond by 1", -1, t.x.feed(0, 0, 0, 0, 0));
        t.due("status(0)", 3, t.x.status(0));
        t.due("all 1581 stay", false, t.x.end(1582));
        t.due("end(1580)", true, t.x.end(1580));
        t.due("feed to 1600", 1600, t.x.feed(0, 0, 0, 0, 0));
        t.due("end(0)", true, t.x.end(0));
        t.due("feed behind none", 20, t.x.feed(0, 0, 0, 0, 0));
        t.due("end(1)", true, t.x.end(1));
        t.due("feed behind one", 21, t.x.feed(0, 0, 0, 0, 0));
    }

    private static void feedOrder(Due t) {
        t.sentence("2. Twenty bytes come behind those on the tape, of each number the highest first");
        t.street("street 30;person p at 0 trust 1;person q at 0 trust 1;person r at 0 trust 1;person s at 0 trust 1;person u at 0 trust 1;"
                + "person v at 0 trust 1;lie a of p;lie b of p;lie c of p;lie d of p;", 11);
        // HOUR 999, tallow 999; the WINDOWS, the candles: each byte of all five numbers is told where it stands.
        int[] bytes = {3, 231, 3, 231, 1, 2, 3, 4, 5, 6, 11, 12, 13, 14, 15, 16, 17, 18};
        int c = 167;
        for (int b : bytes) {
            c = (3 * c + b) % 251;
        }
        t.due("feed", 20, t.x.feed(3 << 24 | 231 << 16 | 3 << 8 | 231, 0x01020304, 0x05060b0c, 0x0d0e0f10, 0x11120000 | c << 8 | 255));
        t.x.end(19);
        t.due("on()", true, t.x.on());
        t.due("has(4)", 999, t.x.has(4));
        for (int p = 0; p < 6; p++) {
            t.due("person(" + p + ", 0)", p + 1, t.x.person(p, 0));
        }
        for (int l = 0; l < 4; l++) {
            t.due("lie(" + l + ", 1)", 11 + 2 * l, t.x.lie(l, 1));
            t.due("lie(" + l + ", 2)", 12 + 2 * l, t.x.lie(l, 2));
        }
        // Bytes above 127, and numbers below 0.
        for (int place = 0; place < 20; place++) {
            int[] five = {0x20202020, 0x20202020, 0x20202020, 0x20202020, 0x20202020};
            int shift = 24 - 8 * (place % 4);
            five[place / 4] = five[place / 4] & ~(255 << shift) | 200 << shift;
            t.x.feed(five[0], five[1], five[2], five[3], five[4]);
            t.due("street()", -1, t.x.street());
            t.due("fault(1)", place, t.x.fault(1));
        }
    }

    private static void end(Due t) {
        t.sentence("3. true; false, refused (0), if it has not so many, or n is below 0");
        t.due("end(0) of none", true, t.x.end(0));
        t.due("end(1) of none", false, t.x.end(1));
        t.x.feed(0, 0, 0, 0, 0);
        int refused = 1;
        for (int n : new int[] {21, 22, 1600, 1601, MOST, -1, -20, LEAST}) {
            t.due("end(" + n + ")", false, t.x.end(n));
            t.due("status(0)", ++refused, t.x.status(0));
        }
        t.due("end(20)", true, t.x.end(20));
        t.due("end(19)", true, t.x.end(19));
        t.due("end(20)", false, t.x.end(20));
        t.due("end(0)", true, t.x.end(0));
        t.due("end(1)", false, t.x.end(1));
    }

    private static void endCutsOff(Due t) {
        t.sentence("3. The tape has its first n bytes alone");
        t.street("street 5;person ann at 0 trust 0;lie a of ann;", 3);
        t.tape("most 789");
        t.x.end(7);
        t.due("ask() of a number cut off", 78, t.x.ask());
        t.tape("often allx");
        t.x.end(9);
        t.due("ask() of a word cut off", 1, t.x.ask());
        t.tape("most 7+");
        t.x.end(6);
        t.due("ask() of a sum cut off", 7, t.x.ask());
        t.tape("most 12345");
        t.x.end(9);
        t.due("ask() of five digits cut off", 1234, t.x.ask());
        t.tape("most 7");
        t.x.end(4);
        Due.feedBytes(t.x, ' ', '9');
        t.due("ask() of what comes behind", 9, t.x.ask());
        t.tape(0, 0, 0, 1);
        t.x.end(3);
        t.due("see() of three bytes", 1, t.x.see());
        t.tape("street 2;x");
        t.x.end(9);
        t.due("street()", 1, t.x.street());
        t.tape("street 22;");
        t.x.end(8);
        t.due("street()", -1, t.x.street());
        t.due("fault(1) at the length cut off", 8, t.x.fault(1));
    }

    private static void streetTapeGoes(Due t) {
        t.sentence("4. The tape (it goes) is THE STREET: how many STATEMENTS");
        t.street("street 2;", 1);
        t.due("end(1)", false, t.x.end(1));
        t.streetFault(1, "street 2;@?");
        t.due("end(1)", false, t.x.end(1));
        t.due("street() of the tape that went", -1, t.x.street());
        t.due("fault(0)", 1, t.x.fault(0));
        t.due("fault(1)", 0, t.x.fault(1));
    }

    private static void streetAnew(Due t) {
        t.sentence("4. Without one all is as at first, nothing is KEPT, SEEN or can be undone; the seed stays");
        t.street(STREET + "gust 50;tallow 77;", 12);
        t.x.seed(5);
        t.x.light(0, 1);
        t.x.light(1, 9);
        t.x.move(0, 3);
        t.x.chance(2);
        t.tape(0, 0, 0);
        t.x.see();
        Seeds s = new Seeds(5);
        for (int k = 0; k < 2; k++) {
            if (s.draw(100) < 50) {
                s.draw(5);
            }
        }
        t.due("kept", true, t.x.has(8) > 0);
        t.street(STREET + "gust 50;", 11);
        int[] want = {5, 2, 3, 2, 0, 100, 0, 0, 0, 0, 0};
        for (int what = 0; what < want.length; what++) {
            t.due("has(" + what + ")", want[what], t.x.has(what));
        }
        t.due("person(0, 0)", 0, t.x.person(0, 0));
        t.due("lie(1, 1)", 0, t.x.lie(1, 1));
        t.due("kept(0, 0)", -1, t.x.kept(0, 0));
        t.due("undo()", false, t.x.undo());
        for (int k = 0; k < 20; k++) {
            int gusts = s.draw(100) < 50 ? 1 : 0;
            if (gusts == 1) {
                s.draw(5);
            }
            t.due("chance(1)", gusts, t.x.chance(1));
        }
    }

    private static void streetFault(Due t) {
        t.sentence("4. NONE, refused (1), with a FAULT (all stays)");
        t.streetFault(1, "@");
        t.streetFault(2, "street @1;");
        for (int what = 0; what <= 10; what++) {
            t.due("has(" + what + ")", 0, t.x.has(what));
        }
        t.street(STREET, 10);
        t.x.light(0, 9);
        t.streetFault(3, "street 2;person p at 1 trust 1;person @p");
        t.streetFault(4, "street 2;person p at 1 trust 1;lie x of p;tallow 9;gust 9;drafts ((((((@(");
        t.streetFault(5, "street 2;drafts 9;@drafts 1;");
        int[] want = {5, 2, 3, 2, 0, 91, 1, 1, 0, 0, 1};
        for (int what = 0; what < want.length; what++) {
            t.due("has(" + what + ")", want[what], t.x.has(what));
        }
        t.due("letter(0, 0, 0)", 1, t.x.letter(0, 0, 0));
        t.due("letter(0, 0, 1)", 14, t.x.letter(0, 0, 1));
        t.due("lie(2, 4)", 0, t.x.lie(2, 4));
        t.due("plan(1, 2)", 99, t.x.plan(1, 2));
        t.due("draft(0, 0)", 0, t.x.draft(0, 0));
        t.due("later(0, 1)", 8, t.x.later(0, 1));
        t.due("status(1)", 5, t.x.status(1));
    }

    private static void fault(Due t) {
        t.sentence("5. its FAULT (what 0; 0 without, and ahead of any), its place (1; NONE without). NONE for another what");
        t.due("fault(0) ahead of any", 0, t.x.fault(0));
        t.due("fault(1) ahead of any", -1, t.x.fault(1));
        for (int what : new int[] {LEAST, -1, 2, 3, MOST}) {
            t.due("fault(" + what + ")", -1, t.x.fault(what));
        }
        t.streetFault(2, "street @1;");
        for (int what : new int[] {LEAST, -1, 2, 3, MOST}) {
            t.due("fault(" + what + ")", -1, t.x.fault(what));
        }
        t.street("street 2;", 1);
        t.askFault(1, "most @?");
        t.ask("most 1", 0);
        t.askFault(1, "@");
        t.due("end", false, t.x.end(99));
        t.tape(9, 9, 9);
        t.x.see();
        t.due("fault(0) stays behind other calls", 1, t.x.fault(0));
        t.due("fault(1) stays behind other calls", 0, t.x.fault(1));
        t.street("street 2;", 1);
    }

    private static void has(Due t) {
        t.sentence("6. (ahead of a street 0). NONE for others");
        for (int what : new int[] {LEAST, -1, 11, 12, MOST}) {
            t.due("has(" + what + ")", -1, t.x.has(what));
        }
        t.street(STREET, 10);
        for (int what : new int[] {LEAST, -1, 11, 12, MOST}) {
            t.due("has(" + what + ")", -1, t.x.has(what));
        }
    }

    private static void letter(Due t) {
        t.sentence("7. Letter k (0 .. 5) .. 1 .. 26; 0 behind it; NONE when there is none such");
        t.street(STREET, 10);
        int[] ann = {1, 14, 14, 0, 0, 0};
        int[] bcdefg = {2, 3, 4, 5, 6, 7};
        for (int k = 0; k < 6; k++) {
            t.due("letter(0, 0, " + k + ")", ann[k], t.x.letter(0, 0, k));
            t.due("letter(1, 1, " + k + ")", bcdefg[k], t.x.letter(1, 1, k));
            t.due("letter(1, 0, " + k + ")", k == 0 ? 1 : 0, t.x.letter(1, 0, k));
        }
        for (int k : new int[] {LEAST, -1, 6, 7, MOST}) {
            t.due("letter(0, 0, " + k + ")", -1, t.x.letter(0, 0, k));
            t.due("letter(1, 1, " + k + ")", -1, t.x.letter(1, 1, k));
            t.due("letter(" + k + ", 0, 0)", -1, t.x.letter(k, 0, 0));
            t.due("letter(0, " + k + ", 0)", -1, t.x.letter(0, k, 0));
            t.due("letter(1, " + k + ", 0)", -1, t.x.letter(1, k, 0));
        }
        t.due("letter(2, 0, 0)", -1, t.x.letter(2, 0, 0));
        t.due("letter(0, 2, 0)", -1, t.x.letter(0, 2, 0));
        t.due("letter(1, 2, 0)", 3, t.x.letter(1, 2, 0));
        t.due("letter(1, 3, 0)", -1, t.x.letter(1, 3, 0));
    }

    private static void person(Due t) {
        t.sentence("8. Of a PERSON: .. NONE when there is none such, or for others");
        t.street(STREET, 10);
        t.x.light(0, 9);
        t.x.light(2, 9);
        int[][] want = {{0, 0, 2}, {4, 9, 0}};
        for (int p = 0; p < 2; p++) {
            for (int what = 0; what < 3; what++) {
                t.due("person(" + p + ", " + what + ")", want[p][what], t.x.person(p, what));
            }
            for (int what : new int[] {LEAST, -1, 3, MOST}) {
                t.due("person(" + p + ", " + what + ")", -1, t.x.person(p, what));
            }
        }
        for (int p : new int[] {LEAST, -1, 2, 5, 6, MOST}) {
            t.due("person(" + p + ", 0)", -1, t.x.person(p, 0));
        }
    }

    private static void lie(Due t) {
        t.sentence("9. Of a LIE: .. NONE when there is none such, or for others");
        t.street(STREET, 10);
        t.x.light(0, 9);
        t.x.hours(1);
        int[][] want = {{0, 8, 1, 1, -1, 4, 0}, {1, 0, 0, 0, -1, 0, 0}, {0, 0, 0, 0, 0, 0, 1}};
        for (int l = 0; l < 3; l++) {
            for (int what = 0; what < 7; what++) {
                t.due("lie(" + l + ", " + what + ")", want[l][what], t.x.lie(l, what));
            }
            for (int what : new int[] {LEAST, -1, 7, MOST}) {
                t.due("lie(" + l + ", " + what + ")", -1, t.x.lie(l, what));
            }
        }
        for (int l : new int[] {LEAST, -1, 3, 7, 8, MOST}) {
            t.due("lie(" + l + ", 0)", -1, t.x.lie(l, 0));
            t.due("lie(" + l + ", 4)", -1, t.x.lie(l, 4));
        }
        t.sentence("I. near: how many other LIES are lit in its WINDOW, in one beside it (the street's two ends)");
        t.street("street 3;person p at 0 trust 1;person q at 2 trust 1;lie a of p;lie b of q;lie c of p;", 6);
        t.x.light(0, 9);
        t.x.light(1, 9);
        t.due("lie(0, 6)", 0, t.x.lie(0, 6));
        t.due("lie(2, 6), not lit", 1, t.x.lie(2, 6));
        t.x.move(1, 1);
        t.due("lie(0, 6)", 1, t.x.lie(0, 6));
        t.due("lie(1, 6)", 1, t.x.lie(1, 6));
        t.due("lie(2, 6), not lit", 2, t.x.lie(2, 6));
        t.x.move(0, 2);
        t.due("lie(0, 6)", 1, t.x.lie(0, 6));
        t.x.move(1, 0);
        t.due("lie(0, 6)", 0, t.x.lie(0, 6));
    }

    private static void draft(Due t) {
        t.sentence("10. at a WINDOW n HOURS from now on (0 .. 60); NONE when there is none such, or n can't be");
        t.street(STREET + "drafts place+hour/10;", 11);
        t.due("draft(0, 0)", 0, t.x.draft(0, 0));
        t.due("draft(4, 0)", 4, t.x.draft(4, 0));
        t.due("draft(0, 60)", 6, t.x.draft(0, 60));
        t.due("draft(4, 59)", 9, t.x.draft(4, 59));
        for (int w : new int[] {LEAST, -1, 5, 30, MOST}) {
            t.due("draft(" + w + ", 0)", -1, t.x.draft(w, 0));
        }
        for (int n : new int[] {LEAST, -1, 61, MOST}) {
            t.due("draft(0, " + n + ")", -1, t.x.draft(0, n));
        }
        t.x.hours(10);
        t.due("draft(0, 0)", 1, t.x.draft(0, 0));
        t.due("draft(0, 60)", 7, t.x.draft(0, 60));
    }

    private static void plan(Due t) {
        t.sentence("11. Of a row of the PLAN: .. NONE when there is none such, or for others");
        t.street(STREET, 10);
        int[][] want = {{0, 3, 1}, {2, 999, 99}};
        for (int k = 0; k < 2; k++) {
            for (int what = 0; what < 3; what++) {
                t.due("plan(" + k + ", " + what + ")", want[k][what], t.x.plan(k, what));
            }
            for (int what : new int[] {LEAST, -1, 3, MOST}) {
                t.due("plan(" + k + ", " + what + ")", -1, t.x.plan(k, what));
            }
        }
        for (int k : new int[] {LEAST, -1, 2, 15, 16, MOST}) {
            t.due("plan(" + k + ", 0)", -1, t.x.plan(k, 0));
        }
    }

    private static void kept(Due t) {
        t.sentence("12. the k-th from the oldest on: .. NONE when there is none such, or for others");
        t.street(STREET, 10);
        t.due("kept(0, 0)", -1, t.x.kept(0, 0));
        t.x.light(1, 1);
        t.x.hours(1);
        t.x.light(0, 1);
        t.x.hours(1);
        int[][] want = {{0, 1}, {1, 0}};
        for (int k = 0; k < 2; k++) {
            for (int what = 0; what < 2; what++) {
                t.due("kept(" + k + ", " + what + ")", want[k][what], t.x.kept(k, what));
            }
            for (int what : new int[] {LEAST, -1, 2, MOST}) {
                t.due("kept(" + k + ", " + what + ")", -1, t.x.kept(k, what));
            }
        }
        for (int k : new int[] {LEAST, -1, 2, 39, 40, MOST}) {
            t.due("kept(" + k + ", 0)", -1, t.x.kept(k, 0));
        }
    }

    private static void noSuchLie(Due t) {
        for (int l : new int[] {LEAST, -2, -1, 3, 7, 8, MOST}) {
            t.sentence("13 to 17, 21, 23 to 26. NONE .. when there is none such (LIE " + l + ")");
            t.street(STREET, 10);
            for (int there = 0; there < 3; there++) {
                t.x.light(there, 9);
            }
            t.due("later", -1, t.x.later(l, 0));
            t.due("held", -1, t.x.held(l, 0));
            t.due("out", -1, t.x.out(l));
            t.due("trusted 0", -1, t.x.trusted(l, 0));
            t.due("trusted 1", -1, t.x.trusted(l, 1));
            t.due("shorts", -1, t.x.shorts(l, 1));
            t.due("odds", l == -1 ? 500 : -1, t.x.odds(l));
            t.due("inches", -1, t.x.inches(l, -1));
            t.due("tells", -1, t.x.tells(l, 0));
            t.due("status(2)", 0, t.x.status(2));
            t.due("light", false, t.x.light(l, 1));
            t.due("snuff", -1, t.x.snuff(l));
            t.due("status(2)", 2, t.x.status(2));
        }
    }

    private static void trusted(Due t) {
        t.sentence("16. first (what 0), not any more first, having been so (1). NONE when it is not, .. or for others");
        t.street(STREET + "believes told>1;", 11);
        t.x.light(0, 5);
        t.due("trusted(0, 0)", 2, t.x.trusted(0, 0));
        t.due("trusted(0, 1)", 5, t.x.trusted(0, 1));
        t.due("trusted(1, 0), never", -1, t.x.trusted(1, 0));
        t.due("trusted(1, 1), never", -1, t.x.trusted(1, 1));
        for (int what : new int[] {LEAST, -1, 2, MOST}) {
            t.due("trusted(0, " + what + ")", -1, t.x.trusted(0, what));
        }
        t.x.hours(2);
        t.due("trusted(0, 0), now", 0, t.x.trusted(0, 0));
        t.due("trusted(0, 1)", 3, t.x.trusted(0, 1));
        t.x.hours(3);
        t.due("trusted(0, 0), out", -1, t.x.trusted(0, 0));
        t.due("trusted(0, 1), out", -1, t.x.trusted(0, 1));
    }

    private static void see(Due t) {
        t.sentence("22. 1 to 16 rows of three bytes: how many rows; NONE, refused (1), all staying, when it is none such");
        t.tape(0, 0, 0);
        t.due("see() without a street", -1, t.x.see());
        t.due("the tape goes", false, t.x.end(1));
        t.street(STREET, 10);
        int refused = 1;
        for (int length = 0; length <= 54; length++) {
            boolean taken = length > 0 && length < 49 && length % 3 == 0;
            refused += taken ? 0 : 1;
            t.tape(new int[length]);
            t.due("see() of " + length + " bytes", taken ? length / 3 : -1, t.x.see());
            t.due("has(9) behind " + length, length < 3 ? 0 : Math.min(48, length) / 3, t.x.has(9));
        }
        t.due("status(1)", refused, t.x.status(1));
        t.due("the tape goes", false, t.x.end(1));
        t.tape(0, 4, 0, 0, 5, 0);
        t.due("see() with a WINDOW that there is not", -1, t.x.see());
        t.due("the tape goes", false, t.x.end(1));
        t.due("has(9)", 16, t.x.has(9));
        t.tape(0, 0, 1);
        t.due("see() anew", 1, t.x.see());
        t.due("has(9)", 1, t.x.has(9));
    }

    private static void light(Due t) {
        t.sentence("25. n inches (1 .. 99): true; false, refused (2), when it is lit, .. n can't be, or there is none such");
        t.street(STREET + "tallow 999;", 11);
        int refused = 0;
        for (int n : new int[] {LEAST, -1, 0, 100, 101, 999, MOST}) {
            t.due("light(0, " + n + ")", false, t.x.light(0, n));
            t.due("status(2)", ++refused, t.x.status(2));
        }
        t.due("light(0, 1)", true, t.x.light(0, 1));
        t.due("lie(0, 1)", 1, t.x.lie(0, 1));
        t.due("light(0, 5), lit", false, t.x.light(0, 5));
        t.due("light(1, 99)", true, t.x.light(1, 99));
        t.due("light(1, 99), lit", false, t.x.light(1, 99));
        t.due("status(2)", refused + 2, t.x.status(2));
        t.due("lie(1, 1)", 99, t.x.lie(1, 1));
        t.due("has(5)", 899, t.x.has(5));
        t.due("has(10)", 2, t.x.has(10));
    }

    private static void lightTallow(Due t) {
        t.sentence("25. there is not tallow enough");
        t.street(STREET + "tallow 30;", 11);
        t.due("light(0, 31)", false, t.x.light(0, 31));
        t.due("has(5)", 30, t.x.has(5));
        t.due("light(0, 30)", true, t.x.light(0, 30));
        t.due("has(5)", 0, t.x.has(5));
        t.due("light(1, 1)", false, t.x.light(1, 1));
        t.due("status(2)", 2, t.x.status(2));
        t.x.buy(1);
        t.due("light(1, 2)", false, t.x.light(1, 2));
        t.due("light(1, 1)", true, t.x.light(1, 1));
        t.due("light(2, 1) without a street", false, new LieCandles().light(0, 1));
    }

    private static void snuff(Due t) {
        t.sentence("26. how many inches were left (those beyond 999 of tallow, too); NONE, refused (2), when it is not lit, or none such");
        t.street(STREET + "tallow 999;", 11);
        t.due("snuff(0), not lit", -1, t.x.snuff(0));
        t.due("status(2)", 1, t.x.status(2));
        t.x.light(0, 99);
        t.x.buy(98);
        t.due("has(5)", 998, t.x.has(5));
        t.due("snuff(0)", 99, t.x.snuff(0));
        t.due("has(5)", 999, t.x.has(5));
        t.due("snuff(0) anew", -1, t.x.snuff(0));
        t.x.light(0, 1);
        t.due("snuff(0) of one inch", 1, t.x.snuff(0));
        t.due("has(5)", 999, t.x.has(5));
        t.due("status(2)", 2, t.x.status(2));
    }

    private static void move(Due t) {
        t.sentence("27. A PERSON moves to another WINDOW: true; false, refused (2), when he is there, or there are none such");
        t.street(STREET, 10);
        int refused = 0;
        int[][] none = {{0, 0}, {1, 4}, {0, 5}, {0, -1}, {0, LEAST}, {0, MOST}, {2, 0}, {-1, 0}, {LEAST, 0}, {MOST, 0}, {6, 0}, {0, 30}};
        for (int[] pair : none) {
            t.due("move(" + pair[0] + ", " + pair[1] + ")", false, t.x.move(pair[0], pair[1]));
            t.due("status(2)", ++refused, t.x.status(2));
        }
        t.due("has(10)", 0, t.x.has(10));
        t.due("move(0, 4)", true, t.x.move(0, 4));
        t.due("person(0, 0)", 4, t.x.person(0, 0));
        t.due("move(0, 4), there", false, t.x.move(0, 4));
        t.due("move(1, 0)", true, t.x.move(1, 0));
        t.due("person(1, 0)", 0, t.x.person(1, 0));
        t.due("has(10)", 2, t.x.has(10));
    }

    private static void buy(Due t) {
        t.sentence("28. n inches of tallow (1 .. 999) are bought: .. NONE, refused (2), when n can't be, .. or without a street");
        t.due("buy(1) without a street", -1, t.x.buy(1));
        t.due("has(5)", 0, t.x.has(5));
        t.street(STREET + "tallow 0;", 11);
        int refused = 1;
        for (int n : new int[] {LEAST, -1, 0, 1000, 1001, MOST}) {
            t.due("buy(" + n + ")", -1, t.x.buy(n));
            t.due("status(2)", ++refused, t.x.status(2));
        }
        t.due("has(5)", 0, t.x.has(5));
        t.due("buy(1)", 1, t.x.buy(1));
        t.due("undo()", true, t.x.undo());
        t.due("buy(999)", 999, t.x.buy(999));
    }

    private static void buyMost(Due t) {
        t.sentence("28. how many there are then (999 at most); NONE, refused (2), when .. there are 999");
        t.street(STREET + "tallow 997;", 11);
        t.due("buy(1)", 998, t.x.buy(1));
        t.due("buy(1)", 999, t.x.buy(1));
        t.due("buy(1)", -1, t.x.buy(1));
        t.due("buy(999)", -1, t.x.buy(999));
        t.due("status(2)", 2, t.x.status(2));
        t.x.undo();
        t.due("buy(2)", 999, t.x.buy(2));
        t.x.undo();
        t.due("buy(999)", 999, t.x.buy(999));
        t.due("has(5)", 999, t.x.has(5));
    }

    private static void hours(Due t) {
        t.sentence("29. n HOURS (1 .. 100): how many are OUT in them; NONE, refused (3), when it can't be, or without a street");
        t.due("hours(1) without a street", -1, t.x.hours(1));
        t.street(STREET, 10);
        int refused = 1;
        for (int n : new int[] {LEAST, -1, 0, 101, 102, 999, MOST}) {
            t.due("hours(" + n + ")", -1, t.x.hours(n));
            t.due("status(3)", ++refused, t.x.status(3));
        }
        t.due("has(4)", 0, t.x.has(4));
        t.x.light(1, 1);
        t.x.light(0, 2);
        t.due("hours(1)", 1, t.x.hours(1));
        t.due("hours(100), one lit and one of the PLAN", 2, t.x.hours(100));
        t.due("has(4)", 101, t.x.has(4));
        t.due("hours(1)", 0, t.x.hours(1));
        t.sentence("29. NONE, refused (3), when it can't be (beyond HOUR 999)");
        t.street(STREET, 10);
        for (int k = 0; k < 9; k++) {
            t.x.hours(100);
        }
        t.due("hours(100) to 1000", -1, t.x.hours(100));
        t.due("hours(99) to 999", 0, t.x.hours(99));
        t.due("has(4)", 999, t.x.has(4));
        t.due("hours(1)", -1, t.x.hours(1));
        t.due("status(3)", 2, t.x.status(3));
        t.x.undo();
        t.due("has(4)", 900, t.x.has(4));
        t.due("hours(98)", 0, t.x.hours(98));
        t.due("hours(2)", -1, t.x.hours(2));
        t.due("hours(1)", 0, t.x.hours(1));
    }

    private static void chance(Due t) {
        t.sentence("30. n HOURS by the seed (1 .. 100), one ACT: how many gusts; NONE, refused (3), when it can't be, or without a street");
        t.due("chance(1) without a street", -1, t.x.chance(1));
        t.street(STREET + "gust 100;", 11);
        int refused = 1;
        for (int n : new int[] {LEAST, -1, 0, 101, 102, 999, MOST}) {
            t.due("chance(" + n + ")", -1, t.x.chance(n));
            t.due("status(3)", ++refused, t.x.status(3));
        }
        t.due("has(4)", 0, t.x.has(4));
        t.due("has(10)", 0, t.x.has(10));
        t.due("chance(1)", 1, t.x.chance(1));
        t.due("chance(100)", 100, t.x.chance(100));
        t.due("has(4)", 101, t.x.has(4));
        t.due("has(10)", 2, t.x.has(10));
        for (int k = 0; k < 8; k++) {
            t.x.chance(100);
        }
        t.due("chance(99) to 1000", -1, t.x.chance(99));
        t.due("chance(98) to 999", 98, t.x.chance(98));
        t.due("chance(1)", -1, t.x.chance(1));
        t.due("status(3)", refused + 2, t.x.status(3));
        t.sentence("30. (a refused one draws nothing)");
        t.due("chance(1) without a street", -1, t.x.chance(1));
        t.street("street 5;gust 50;", 2);
        t.x.chance(0);
        t.x.chance(101);
        Seeds s = new Seeds(1);
        int gusts = 0;
        for (int k = 0; k < 100; k++) {
            if (s.draw(100) < 50) {
                gusts++;
                s.draw(5);
            }
        }
        t.due("chance(100)", gusts, t.x.chance(100));
    }

    private static void undo(Due t) {
        t.sentence("31. The latest ACT is undone (the seed stays): true; false, refused (4), when none can be");
        t.due("undo() without a street", false, t.x.undo());
        t.street(STREET + "gust 50;", 11);
        t.due("undo()", false, t.x.undo());
        t.due("status(4)", 2, t.x.status(4));
        Seeds s = new Seeds(1);
        for (int k = 0; k < 12; k++) {
            int gusts = s.draw(100) < 50 ? 1 : 0;
            if (gusts == 1) {
                s.draw(5);
            }
            t.due("chance(1)", gusts, t.x.chance(1));
            t.due("has(4)", 1, t.x.has(4));
            t.due("undo()", true, t.x.undo());
            t.due("has(4)", 0, t.x.has(4));
        }
        t.due("undo()", false, t.x.undo());
        t.due("status(4)", 3, t.x.status(4));
    }

    private static void undoNewActs(Due t) {
        t.sentence("31. The latest ACT is undone (among acts done anew)");
        t.street(STREET + "tallow 0;", 11);
        for (int k = 0; k < 25; k++) {
            t.x.buy(10);
        }
        for (int k = 0; k < 15; k++) {
            t.x.undo();
        }
        t.due("has(5)", 100, t.x.has(5));
        t.due("has(10)", 5, t.x.has(10));
        for (int k = 0; k < 18; k++) {
            t.x.buy(1);
        }
        t.due("has(10)", 20, t.x.has(10));
        for (int k = 17; k >= 0; k--) {
            t.due("undo()", true, t.x.undo());
            t.due("has(5)", 100 + k, t.x.has(5));
        }
        t.due("undo()", true, t.x.undo());
        t.due("has(5)", 90, t.x.has(5));
        t.due("undo()", true, t.x.undo());
        t.due("has(5)", 80, t.x.has(5));
        t.due("undo()", false, t.x.undo());
    }

    private static void seed(Due t) {
        t.sentence("32. The seed: true; false, refused (5), when it is below 0. (It is 1 at first.)");
        t.due("seed(0)", true, t.x.seed(0));
        t.due("seed(1)", true, t.x.seed(1));
        t.due("seed(most)", true, t.x.seed(MOST));
        t.due("seed(-1)", false, t.x.seed(-1));
        t.due("seed(least)", false, t.x.seed(LEAST));
        t.due("status(5)", 2, t.x.status(5));
        dueDraws(t, MOST);
        t.sentence("32. (It is 1 at first.)");
        dueDraws(t, 1);
        t.x.seed(0);
        dueDraws(t, 0);
    }

    /** Refused seeds leave the one there is. */
    private static void dueDraws(Due t, int seed) {
        Seeds s = new Seeds(seed);
        t.street("street 5;gust 50;", 2);
        for (int k = 0; k < 30; k++) {
            int gusts = s.draw(100) < 50 ? 1 : 0;
            if (gusts == 1) {
                s.draw(5);
            }
            t.due("chance(1) of seed " + seed, gusts, t.x.chance(1));
        }
    }

    private static void status(Due t) {
        t.sentence("37. How many were refused. NONE for others");
        for (int what : new int[] {LEAST, -1, 6, 7, MOST}) {
            t.due("status(" + what + ")", -1, t.x.status(what));
        }
        for (int k = 1; k <= 60; k++) {
            t.x.end(-1);
            t.x.snuff(0);
            t.x.undo();
            t.x.seed(-1);
            t.x.hours(0);
            t.x.see();
        }
        for (int what = 0; what < 6; what++) {
            t.due("status(" + what + ")", 60, t.x.status(what));
        }
    }
}
