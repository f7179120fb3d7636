import java.util.ArrayList;
import java.util.List;
import java.util.Random;

/** Runs of calls by a told seed, each answer held against the Oracle's; `FuzzTest FIRST COUNT` runs others. */
final class FuzzTest {
    private final Random dice;
    private final LieCandles x = new LieCandles();
    private final Oracle o = new Oracle();
    private final List<String> told = new ArrayList<>();
    private final List<String> people = new ArrayList<>();
    private final List<String> lies = new ArrayList<>();
    private int windows = 2;
    private boolean right = true;
    private int asked = 0;

    private FuzzTest(long seed) {
        dice = new Random(seed);
    }

    public static void main(String[] args) {
        int first = args.length > 0 ? Integer.parseInt(args[0]) : 1;
        int count = args.length > 1 ? Integer.parseInt(args[1]) : 400;
        long all = 0;
        int wrong = 0;
        for (int seed = first; seed < first + count; seed++) {
            FuzzTest run = new FuzzTest(seed);
            run.play();
            all += run.asked;
            if (!run.right) {
                wrong++;
                System.out.println("seed " + seed + ":");
                run.told.forEach(System.out::println);
                if (wrong == 3) {
                    break;
                }
            }
        }
        System.out.println(all + " answers, " + wrong + " runs not as due");
        if (wrong != 0 || all == 0) {
            System.exit(1);
        }
    }

    private boolean same(String call, long got, long want) {
        asked++;
        told.add(call + " -> " + got);
        if (got != want && right) {
            told.add("   due is " + want);
            right = false;
        }
        return right;
    }

    private int below(int n) {
        return dice.nextInt(n);
    }

    private boolean seldom(int n) {
        return dice.nextInt(n) == 0;
    }

    private String pick(String... all) {
        return all[below(all.length)];
    }

    // ---- texts

    private String number() {
        return seldom(12) ? String.valueOf(below(10000)) : seldom(10) ? "0" + below(10) : String.valueOf(below(12));
    }

    private String part(String[] words, int deep) {
        int k = below(10);
        if (k < 3 || deep <= 0 && k > 7) {
            return number();
        }
        if (k < 8) {
            String word = words[below(words.length)];
            return word.equals("wax") || word.equals("glow") ? word + " " + part(words, deep - 1) : word;
        }
        if (k == 8) {
            return "(" + sum(words, deep - 1) + ")";
        }
        return pick("min", "max") + pick("", " ") + "(" + sum(words, deep - 1) + "," + sum(words, deep - 1) + ")";
    }

    private String sum(String[] words, int deep) {
        StringBuilder b = new StringBuilder(part(words, deep));
        for (int k = below(3); k > 0; k--) {
            b.append(pick("+", "-", "*", "/", " + ", "+", "-\n", "*", "/")).append(part(words, deep));
        }
        return b.toString();
    }

    private String fact(String[] words, int deep) {
        int k = below(12);
        if (k == 0) {
            return "all";
        }
        if (k < 3 && deep > 0) {
            return "not " + fact(words, deep - 1);
        }
        if (k < 5 && deep > 0) {
            return "[" + test(words, deep - 1) + "]";
        }
        return sum(words, deep) + pick("<", ">", "=", " < ", ">") + sum(words, deep);
    }

    private String test(String[] words, int deep) {
        StringBuilder b = new StringBuilder(fact(words, deep));
        for (int k = below(3); k > 0; k--) {
            b.append(pick(" and ", " or ")).append(fact(words, deep));
        }
        return b.toString();
    }

    private int deep() {
        return seldom(6) ? 8 : below(4);
    }

    private static final String[] DRAFTS = {"hour", "place"};
    private static final String[] BURNS = {"hour", "inches", "near", "draft", "told"};
    private static final String[] BELIEVES = {"hour", "inches", "near", "draft", "told", "trust"};
    private static final String[] ASKED = {"number", "inches", "trust", "near", "draft", "told", "place", "lit", "held", "hour",
        "wax", "glow"};

    private String question() {
        String word = pick("first", "last", "often", "total", "most", "least");
        boolean isTest = word.equals("first") || word.equals("last") || word.equals("often");
        return spoil(word + " " + (isTest ? test(ASKED, deep()) : sum(ASKED, deep())), 5);
    }

    private String freshName() {
        if (seldom(60) && !lies.isEmpty()) {
            return lies.get(0);
        }
        StringBuilder b = new StringBuilder();
        for (int k = 1 + below(seldom(80) ? 8 : 6); k > 0; k--) {
            b.append((char) ('a' + below(26)));
        }
        return b.toString();
    }

    private String oneOf(List<String> names) {
        return names.isEmpty() || seldom(80) ? freshName() : names.get(below(names.size()));
    }

    private int roughly(int least, int most) {
        return seldom(60) ? most + 1 + below(50) : least + below(most - least + 1);
    }

    private String someStatement() {
        switch (below(10)) {
            case 0: case 1: {
                String n = freshName();
                String s = "person " + n + " at " + roughly(0, windows - 1) + " trust " + roughly(0, 9);
                people.add(n);
                return s;
            }
            case 2: case 3: {
                String n = freshName();
                String s = "lie " + n + " of " + oneOf(people);
                lies.add(n);
                return s;
            }
            case 4: {
                int a = lies.isEmpty() ? 0 : below(lies.size());
                return lies.size() < 2 || a == 0 ? "tallow " + roughly(0, 999)
                        : "hangs " + lies.get(a) + " on " + lies.get(below(seldom(30) ? lies.size() : a));
            }
            case 5: case 6:
                return lies.isEmpty() ? "gust " + roughly(0, 100)
                        : "light " + oneOf(lies) + " at " + roughly(0, seldom(3) ? 999 : 20) + " for " + roughly(1, seldom(2) ? 99 : 20);
            case 7:
                return "tallow " + roughly(0, 999);
            case 8:
                return "gust " + roughly(0, 100);
            default:
                return "tallow " + roughly(50, 400);
        }
    }

    private String streetText() {
        people.clear();
        lies.clear();
        windows = seldom(2) ? 2 + below(5) : 2 + below(29);
        StringBuilder b = new StringBuilder("street " + windows + ";");
        for (int k = 1 + below(3); k > 0; k--) {
            String n = freshName();
            people.add(n);
            b.append("person ").append(n).append(" at ").append(below(windows)).append(" trust ").append(below(10)).append(";");
        }
        for (int k = below(5); k > 0; k--) {
            String n = freshName();
            lies.add(n);
            b.append(" lie ").append(n).append(" of ").append(people.get(below(people.size()))).append(";");
        }
        for (int k = seldom(15) ? 45 + below(15) : below(10); k > 0; k--) {
            b.append(pick("", " ", "\n")).append(someStatement()).append(";");
        }
        if (!seldom(3)) {
            b.append("drafts ").append(sum(DRAFTS, deep())).append(";");
        }
        if (!seldom(3)) {
            b.append("burns ").append(seldom(2) ? "1+near/2" : seldom(3) ? "max(1, draft)" : sum(BURNS, deep())).append(";");
        }
        if (!seldom(3)) {
            b.append("believes ").append(test(BELIEVES, deep())).append(";");
        }
        if (seldom(20)) {
            b.append(pick("drafts 1;", "burns 1;", "believes all;", "street 3;", "x", "tallow 3 ;"));
        }
        return spoil(b.toString(), 4);
    }

    /** Now and then a text with something put in, taken out, changed or cut off. */
    private String spoil(String text, int often) {
        if (!seldom(often)) {
            return text;
        }
        int at = below(text.length() + 1);
        String put = pick(" ", "\n", ";", "(", ")", "[", "]", "x", "not ", "3", "12345", "all", "and", "or", "A", "\t", ",", "+", "<",
                "wax ", "lit", "hour", "person", "\u00ff", "\u0000", "((((((", "street");
        switch (below(4)) {
            case 0: return text.substring(0, at);
            case 1: return text.substring(0, at) + put + text.substring(at);
            case 2: return text.substring(0, at) + text.substring(Math.min(text.length(), at + 1 + below(3)));
            default: return text.substring(0, at) + put + text.substring(Math.min(text.length(), at + put.length()));
        }
    }

    // ---- calls

    private void tape(String text) {
        int[] bytes = new int[text.length()];
        for (int k = 0; k < bytes.length; k++) {
            bytes[k] = text.charAt(k);
        }
        tape(bytes);
        told.add("tape: " + text);
    }

    private void tape(int[] bytes) {
        x.end(0);
        o.end(0);
        int length = 0;
        for (int from = 0; from < bytes.length; from += 20) {
            int[] f = new int[5];
            for (int k = 0; k < 20; k++) {
                f[k / 4] = f[k / 4] << 8 | (from + k < bytes.length ? bytes[from + k] : 32);
            }
            length = Math.min(from + 20, bytes.length);
            same("feed", x.feed(f[0], f[1], f[2], f[3], f[4]), o.feed(f));
        }
        same("end " + length, x.end(length) ? 1 : 0, o.end(length));
    }

    private int index(int size) {
        if (seldom(80)) {
            return seldom(2) ? Integer.MIN_VALUE : Integer.MAX_VALUE;
        }
        return seldom(25) ? below(20) - 5 : size > 0 ? below(size) : 0;
    }

    private int someLie() {
        return index(o.has(2));
    }

    private void newStreet() {
        tape(streetText());
        same("street", x.street(), o.street());
        same("fault(0)", x.fault(0), o.fault(0));
        same("fault(1)", x.fault(1), o.fault(1));
    }

    private void play() {
        if (seldom(2)) {
            newStreet();
        }
        newStreet();
        int rounds = 20 + below(140);
        // A round makes 90 calls at most, and not all are counted: no object is used for more than 512.
        for (int k = 0; k < rounds && right && asked < 330; k++) {
            switch (below(4)) {
                case 0: act(); break;
                case 1: look(); break;
                case 2: ahead(); break;
                default: rest(); break;
            }
        }
        for (int what = -1; what <= 11; what++) {
            same("has " + what, x.has(what), o.has(what));
            same("status " + what, x.status(what), o.status(what));
        }
    }

    private void act() {
        int l = someLie();
        int p = index(o.has(1));
        int n = seldom(20) ? below(1200) - 100 : 1 + below(30);
        switch (below(9)) {
            case 0: case 1: case 2:
                same("light " + l + " " + n, x.light(l, n) ? 1 : 0, o.light(l, n));
                break;
            case 3:
                same("snuff " + l, x.snuff(l), o.snuff(l));
                break;
            case 4: {
                int w = index(o.has(0));
                same("move " + p + " " + w, x.move(p, w) ? 1 : 0, o.move(p, w));
                break;
            }
            case 5: {
                int much = seldom(4) ? below(1100) - 50 : n;
                same("buy " + much, x.buy(much), o.buy(much));
                break;
            }
            case 6: {
                int h = seldom(6) ? below(120) - 5 : below(5);
                same("hours " + h, x.hours(h), o.hours(h));
                break;
            }
            case 7: {
                int h = seldom(6) ? below(120) - 5 : below(5);
                same("chance " + h, x.chance(h), o.chance(h));
                break;
            }
            default:
                for (int k = seldom(8) ? 25 : 1; k > 0; k--) {
                    same("undo", x.undo() ? 1 : 0, o.undo());
                }
        }
    }

    private void look() {
        int l = someLie();
        int what = below(9) - 1;
        switch (below(8)) {
            case 0: {
                int h = below(13) - 1;
                same("has " + h, x.has(h), o.has(h));
                break;
            }
            case 1: {
                int kind = below(4) - 1;
                int k = below(8) - 1;
                same("letter " + kind + " " + l + " " + k, x.letter(kind, l, k), o.letter(kind, l, k));
                break;
            }
            case 2: {
                int p = index(o.has(1));
                same("person " + p + " " + what, x.person(p, what), o.person(p, what));
                break;
            }
            case 3:
                same("lie " + l + " " + what, x.lie(l, what), o.lie(l, what));
                break;
            case 4: {
                int w = index(o.has(0));
                int n = below(64) - 2;
                same("draft " + w + " " + n, x.draft(w, n), o.draft(w, n));
                break;
            }
            case 5: {
                int k = index(o.has(3));
                same("plan " + k + " " + what, x.plan(k, what), o.plan(k, what));
                break;
            }
            case 6: {
                int k = index(o.has(8));
                same("kept " + k + " " + what, x.kept(k, what), o.kept(k, what));
                break;
            }
            default:
                same("fault " + what, x.fault(what), o.fault(what));
        }
    }

    private void ahead() {
        int l = someLie();
        int n = seldom(10) ? below(66) - 3 : below(15);
        int what = seldom(10) ? below(6) - 2 : below(2);
        switch (below(11)) {
            case 0: same("later " + l + " " + n, x.later(l, n), o.later(l, n)); break;
            case 1: same("held " + l + " " + n, x.held(l, n), o.held(l, n)); break;
            case 2: same("out " + l, x.out(l), o.out(l)); break;
            case 3: same("trusted " + l + " " + what, x.trusted(l, what), o.trusted(l, what)); break;
            case 4: same("shorts " + l + " " + n, x.shorts(l, n), o.shorts(l, n)); break;
            case 5: {
                int set = seldom(12) ? dice.nextInt() : below(1 << Math.max(0, o.has(2)));
                same("together " + set + " " + n, x.together(set, n), o.together(set, n));
                break;
            }
            case 6: same("keystone " + n + " " + what, x.keystone(n, what), o.keystone(n, what)); break;
            case 7: {
                int w = below(5) - 1;
                same("change " + n + " " + w, x.change(n, w), o.change(n, w));
                break;
            }
            case 8: same("odds " + l, x.odds(l), o.odds(l)); break;
            case 9: {
                int k = seldom(2) ? -1 : below(100) - 1;
                same("inches " + l + " " + k, x.inches(l, k), o.inches(l, k));
                break;
            }
            default: {
                int w = below(5) - 1;
                same("tells " + l + " " + w, x.tells(l, w), o.tells(l, w));
            }
        }
    }

    private void rest() {
        switch (below(8)) {
            case 0: case 1: case 2:
                tape(question());
                same("ask", x.ask(), o.ask());
                same("fault(0)", x.fault(0), o.fault(0));
                same("fault(1)", x.fault(1), o.fault(1));
                break;
            case 3: {
                int s = seldom(8) ? -1 - below(9) : dice.nextInt() & 0x7fffffff;
                same("seed " + s, x.seed(s) ? 1 : 0, o.seed(s));
                break;
            }
            case 4: {
                same("image", x.image(), o.image());
                for (int k = -1; k <= 30; k++) {
                    same("octet " + k, x.octet(k), o.octet(k));
                }
                break;
            }
            case 5: recall(); break;
            case 6: sight(); break;
            default:
                if (seldom(6)) {
                    newStreet();
                }
        }
    }

    /** The latest image, an HOUR near the last one, or one that is spoilt. */
    private void recall() {
        List<Integer> b = new ArrayList<>();
        for (int k = 0; o.octet(k) >= 0; k++) {
            b.add(o.octet(k));
        }
        if (b.isEmpty()) {
            return;
        }
        if (seldom(2)) {
            b.set(0, 3);
            b.set(1, 200 + below(40));
        }
        if (seldom(4)) {
            b.set(below(b.size()), below(seldom(2) ? 256 : 10));
        }
        if (!seldom(6)) {
            b.remove(b.size() - 1);
            b.add(Oracle.check(b));
        }
        tape(b.stream().mapToInt(k -> k).toArray());
        told.add("tape: " + b);
        same("on", x.on() ? 1 : 0, o.on());
    }

    private void sight() {
        int rows = seldom(10) ? below(20) : 1 + below(3);
        int[] b = new int[3 * rows + (seldom(15) ? 1 : 0)];
        for (int k = 0; k + 2 < b.length; k += 3) {
            b[k] = seldom(40) ? below(256) : below(seldom(3) ? 31 : 8);
            b[k + 1] = seldom(40) || o.has(0) == 0 ? below(256) : seldom(2) ? Math.max(0, o.person(index(o.has(1)), 0)) : below(o.has(0));
            b[k + 2] = seldom(40) ? below(256) : below(3);
        }
        tape(b);
        told.add("tape: " + java.util.Arrays.toString(b));
        same("see", x.see(), o.see());
    }
}
