import java.util.ArrayList;
import java.util.Arrays;
import java.util.HashMap;
import java.util.List;
import java.util.Map;
import java.util.Set;
import java.util.TreeMap;
import java.util.function.IntPredicate;

/**
 * The document once more, written for likeness to its words and not for thrift: trees, maps and copies of all.
 * FuzzTest holds the program against it.
 */
final class Oracle {
    static final long NOTHING = -1000000000000000L;
    static final Set<String> OWN = Set.of("street", "person", "at", "trust", "lie", "of", "hangs", "on", "light", "for",
            "tallow", "drafts", "burns", "believes", "gust", "inches", "near", "draft", "told", "hour", "place", "number",
            "lit", "held", "wax", "glow", "or", "and", "not", "all", "min", "max");

    static final class Fault extends RuntimeException {
        final int kind;
        final int place;

        Fault(int kind, int place) {
            this.kind = kind;
            this.place = place;
        }
    }

    interface Node {
        long of(World world, int lie, int window, int hour);
    }

    static final class Plan {
        final int windows;
        final List<String> people = new ArrayList<>();
        final List<Integer> homes = new ArrayList<>();
        final List<Integer> trusts = new ArrayList<>();
        final List<String> lies = new ArrayList<>();
        final List<Integer> owners = new ArrayList<>();
        final Map<Integer, Integer> hangs = new HashMap<>();
        final List<int[]> rows = new ArrayList<>();
        int tallow = 100;
        int gust = 0;
        int statements = 0;
        Node drafts = null;
        Node burns = null;
        Node believes = null;

        Plan(int windows) {
            this.windows = windows;
        }
    }

    /** How things stand; copied whole whenever something is tried. */
    static final class World {
        final Plan plan;
        int hour = 0;
        int tallow;
        int[] home;
        int[] candle;
        int[] told;
        List<int[]> kept = new ArrayList<>();

        World(Plan plan) {
            this.plan = plan;
            tallow = plan.tallow;
            home = plan.homes.stream().mapToInt(h -> h).toArray();
            candle = new int[plan.lies.size()];
            told = new int[plan.lies.size()];
        }

        World copy() {
            World w = new World(plan);
            w.hour = hour;
            w.tallow = tallow;
            w.home = home.clone();
            w.candle = candle.clone();
            w.told = told.clone();
            w.kept = new ArrayList<>(kept);
            return w;
        }

        int windowOf(int lie) {
            return home[plan.owners.get(lie)];
        }

        int count(IntPredicate which) {
            int n = 0;
            for (int l = 0; l < candle.length; l++) {
                n += which.test(l) ? 1 : 0;
            }
            return n;
        }

        int litIn(int window) {
            return count(l -> candle[l] > 0 && windowOf(l) == window);
        }

        int near(int lie) {
            return count(l -> l != lie && candle[l] > 0 && Math.abs(windowOf(l) - windowOf(lie)) <= 1);
        }

        int draughty(int window, int at) {
            long sum = plan.drafts == null ? 0 : plan.drafts.of(this, -1, window, at);
            return (int) (sum < 0 ? 0 : sum > 9 ? 9 : sum);
        }

        boolean believed(int lie) {
            if (candle[lie] == 0) {
                return false;
            }
            if (plan.believes != null && plan.believes.of(this, lie, windowOf(lie), hour) == 0) {
                return false;
            }
            Integer on = plan.hangs.get(lie);
            return on == null || believed(on);
        }

        int believedCount() {
            return count(this::believed);
        }

        void gone(int lie) {
            candle[lie] = 0;
            told[lie] = 0;
            kept.add(new int[] {hour, lie});
        }

        int gust(int window) {
            int n = 0;
            for (int l = 0; l < candle.length; l++) {
                if (candle[l] > 0 && windowOf(l) == window) {
                    gone(l);
                    n++;
                }
            }
            return n;
        }

        int pass() {
            for (int[] row : plan.rows) {
                if (row[1] == hour && candle[row[0]] == 0 && tallow >= row[2]) {
                    tallow -= row[2];
                    candle[row[0]] = row[2];
                    told[row[0]] = 0;
                }
            }
            World old = copy();
            int n = 0;
            for (int l = 0; l < candle.length; l++) {
                if (old.candle[l] == 0) {
                    continue;
                }
                long less = plan.burns == null ? 1 + old.near(l) : plan.burns.of(old, l, windowOf(l), hour);
                less = less < 0 ? 0 : less > candle[l] ? candle[l] : less;
                candle[l] -= (int) less;
                told[l] = Math.min(99, told[l] + 1);
                if (candle[l] == 0) {
                    gone(l);
                    n++;
                }
            }
            hour = Math.min(999, hour + 1);
            return n;
        }

        World ahead(int n) {
            World w = copy();
            for (int k = 0; k < n; k++) {
                w.pass();
            }
            return w;
        }

        void snuff(int lie) {
            tallow = Math.min(999, tallow + candle[lie]);
            candle[lie] = 0;
            told[lie] = 0;
        }
    }

    /** Reads a text by its words, numbers and signs. */
    static final class Text {
        final String text;
        int pos = 0;
        int open = 0;
        Set<String> parts = Set.of();

        Text(String text) {
            this.text = text;
        }

        static boolean letter(char c) {
            return c >= 'a' && c <= 'z';
        }

        static boolean digit(char c) {
            return c >= '0' && c <= '9';
        }

        boolean over() {
            while (pos < text.length() && (text.charAt(pos) == ' ' || text.charAt(pos) == '\n')) {
                pos++;
            }
            return pos == text.length();
        }

        /** The whole next word, number or sign; empty at the end. */
        String next() {
            if (over()) {
                return "";
            }
            char c = text.charAt(pos);
            int to = pos + 1;
            if (letter(c)) {
                while (to < text.length() && letter(text.charAt(to))) {
                    to++;
                }
            } else if (digit(c)) {
                while (to < text.length() && digit(text.charAt(to))) {
                    to++;
                }
            }
            if (pos > 0 && (letter(c) || digit(c)) && (letter(text.charAt(pos - 1)) || digit(text.charAt(pos - 1)))) {
                return "?";
            }
            return text.substring(pos, to);
        }

        Fault no() {
            over();
            return new Fault(1, pos);
        }

        boolean take(String what) {
            if (!next().equals(what)) {
                return false;
            }
            pos += what.length();
            return true;
        }

        void need(String what) {
            if (!take(what)) {
                throw no();
            }
        }

        int number(int least, int most) {
            String n = next();
            if (n.isEmpty() || !digit(n.charAt(0))) {
                throw no();
            }
            if (n.length() > 4) {
                throw new Fault(1, pos + 4);
            }
            int value = Integer.parseInt(n);
            if (value < least || value > most) {
                throw new Fault(2, pos);
            }
            pos += n.length();
            return value;
        }

        int nameAt;

        String name() {
            String n = next();
            if (n.isEmpty() || !letter(n.charAt(0)) || OWN.contains(n)) {
                throw no();
            }
            if (n.length() > 6) {
                throw new Fault(1, pos + 6);
            }
            nameAt = pos;
            pos += n.length();
            return n;
        }

        void open(String what) {
            if (!next().equals(what)) {
                throw no();
            }
            if (open == 6) {
                throw new Fault(4, pos);
            }
            open++;
            pos += what.length();
        }

        Node test() {
            Node left = both();
            while (take("or")) {
                Node a = left;
                Node b = both();
                left = (w, l, p, h) -> a.of(w, l, p, h) != 0 || b.of(w, l, p, h) != 0 ? 1 : 0;
            }
            return left;
        }

        Node both() {
            Node left = fact();
            while (take("and")) {
                Node a = left;
                Node b = fact();
                left = (w, l, p, h) -> a.of(w, l, p, h) != 0 && b.of(w, l, p, h) != 0 ? 1 : 0;
            }
            return left;
        }

        Node fact() {
            switch (next()) {
                case "not": {
                    open("not");
                    Node a = fact();
                    open--;
                    return (w, l, p, h) -> a.of(w, l, p, h) == 0 ? 1 : 0;
                }
                case "[": {
                    open("[");
                    Node a = test();
                    need("]");
                    open--;
                    return a;
                }
                case "all":
                    need("all");
                    return (w, l, p, h) -> 1;
                default:
            }
            Node a = sum();
            if (take("<")) {
                Node b = sum();
                return (w, l, p, h) -> a.of(w, l, p, h) < b.of(w, l, p, h) ? 1 : 0;
            }
            if (take(">")) {
                Node b = sum();
                return (w, l, p, h) -> a.of(w, l, p, h) > b.of(w, l, p, h) ? 1 : 0;
            }
            need("=");
            Node b = sum();
            return (w, l, p, h) -> a.of(w, l, p, h) == b.of(w, l, p, h) ? 1 : 0;
        }

        static long hold(long v) {
            return Math.max(-1000000, Math.min(1000000, v));
        }

        Node sum() {
            Node left = product();
            for (String n = next(); n.equals("+") || n.equals("-"); n = next()) {
                pos++;
                Node a = left;
                Node b = product();
                left = n.equals("+") ? (w, l, p, h) -> hold(a.of(w, l, p, h) + b.of(w, l, p, h))
                        : (w, l, p, h) -> hold(a.of(w, l, p, h) - b.of(w, l, p, h));
            }
            return left;
        }

        Node product() {
            Node left = part();
            for (String n = next(); n.equals("*") || n.equals("/"); n = next()) {
                pos++;
                Node a = left;
                Node b = part();
                left = n.equals("*") ? (w, l, p, h) -> hold(a.of(w, l, p, h) * b.of(w, l, p, h)) : (w, l, p, h) -> {
                    long by = b.of(w, l, p, h);
                    return by == 0 ? 0 : (long) Math.floor((double) a.of(w, l, p, h) / by);
                };
            }
            return left;
        }

        Node part() {
            String n = next();
            if (n.isEmpty()) {
                throw no();
            }
            if (digit(n.charAt(0))) {
                int value = number(0, 9999);
                return (w, l, p, h) -> value;
            }
            if (n.equals("(")) {
                open("(");
                Node a = sum();
                need(")");
                open--;
                return a;
            }
            if (n.equals("min") || n.equals("max")) {
                need(n);
                open("(");
                Node a = sum();
                need(",");
                Node b = sum();
                need(")");
                open--;
                return n.equals("min") ? (w, l, p, h) -> Math.min(a.of(w, l, p, h), b.of(w, l, p, h))
                        : (w, l, p, h) -> Math.max(a.of(w, l, p, h), b.of(w, l, p, h));
            }
            if (!parts.contains(n)) {
                throw no();
            }
            if (n.equals("wax") || n.equals("glow")) {
                open(n);
                Node a = part();
                open--;
                return n.equals("glow") ? (w, l, p, h) -> w.litIn((int) a.of(w, l, p, h)) : (w, l, p, h) -> {
                    long k = a.of(w, l, p, h);
                    return k >= 0 && k < w.candle.length ? w.candle[(int) k] : 0;
                };
            }
            need(n);
            return word(n);
        }

        static Node word(String n) {
            switch (n) {
                case "hour": return (w, l, p, h) -> h;
                case "place": return (w, l, p, h) -> p;
                case "inches": return (w, l, p, h) -> w.candle[l];
                case "near": return (w, l, p, h) -> w.near(l);
                case "draft": return (w, l, p, h) -> w.draughty(p, h);
                case "told": return (w, l, p, h) -> w.told[l];
                case "trust": return (w, l, p, h) -> w.plan.trusts.get(w.plan.owners.get(l));
                case "number": return (w, l, p, h) -> l;
                case "lit": return (w, l, p, h) -> w.candle[l] > 0 ? 1 : 0;
                default: return (w, l, p, h) -> w.believed(l) ? 1 : 0;
            }
        }

        Node sumOf(String... words) {
            parts = Set.of(words);
            return sum();
        }

        Node testOf(String... words) {
            parts = Set.of(words);
            return test();
        }
    }

    static Plan readStreet(String text) {
        Text t = new Text(text);
        Plan s = null;
        while (s == null || !t.over()) {
            t.over();
            int start = t.pos;
            String word = t.next();
            if (s != null && s.statements == 60) {
                throw new Fault(5, start);
            }
            if (word.equals("street") != (s == null)) {
                throw t.no();
            }
            if (s == null) {
                t.need("street");
                s = new Plan(t.number(2, 30));
            } else {
                statement(t, s, word, start);
            }
            t.need(";");
            s.statements++;
        }
        return s;
    }

    static void many(boolean tooMany, int start) {
        if (tooMany) {
            throw new Fault(5, start);
        }
    }

    static int find(List<String> names, Text t) {
        int k = names.indexOf(t.name());
        if (k < 0) {
            throw new Fault(3, t.nameAt);
        }
        return k;
    }

    static String fresh(Plan s, Text t) {
        String n = t.name();
        if (s.people.contains(n) || s.lies.contains(n)) {
            throw new Fault(3, t.nameAt);
        }
        return n;
    }

    static void statement(Text t, Plan s, String word, int start) {
        switch (word) {
            case "person": {
                many(s.people.size() == 6, start);
                t.need(word);
                String n = fresh(s, t);
                t.need("at");
                int at = t.number(0, s.windows - 1);
                t.need("trust");
                int trust = t.number(0, 9);
                s.people.add(n);
                s.homes.add(at);
                s.trusts.add(trust);
                break;
            }
            case "lie": {
                many(s.lies.size() == 8, start);
                t.need(word);
                String n = fresh(s, t);
                t.need("of");
                int of = find(s.people, t);
                s.lies.add(n);
                s.owners.add(of);
                break;
            }
            case "hangs": {
                t.need(word);
                int a = find(s.lies, t);
                if (s.hangs.containsKey(a)) {
                    throw new Fault(3, t.nameAt);
                }
                t.need("on");
                int b = find(s.lies, t);
                if (b >= a) {
                    throw new Fault(3, t.nameAt);
                }
                s.hangs.put(a, b);
                break;
            }
            case "light": {
                many(s.rows.size() == 16, start);
                t.need(word);
                int a = find(s.lies, t);
                t.need("at");
                int at = t.number(0, 999);
                t.need("for");
                s.rows.add(new int[] {a, at, t.number(1, 99)});
                break;
            }
            case "tallow":
                t.need(word);
                s.tallow = t.number(0, 999);
                break;
            case "gust":
                t.need(word);
                s.gust = t.number(0, 100);
                break;
            case "drafts":
                many(s.drafts != null, start);
                t.need(word);
                s.drafts = t.sumOf("hour", "place");
                break;
            case "burns":
                many(s.burns != null, start);
                t.need(word);
                s.burns = t.sumOf("hour", "inches", "near", "draft", "told");
                break;
            case "believes":
                many(s.believes != null, start);
                t.need(word);
                s.believes = t.testOf("hour", "inches", "near", "draft", "told", "trust");
                break;
            default:
                throw t.no();
        }
    }

    // ---- the calls

    private final List<Integer> tape = new ArrayList<>();
    private World now = null;
    private List<World> past = new ArrayList<>();
    private List<int[]> seen = new ArrayList<>();
    private int[] picture = new int[0];
    private final int[] refused = new int[6];
    private int fault = 0;
    private int place = -1;
    private long x = 1;

    private int no(int kind) {
        refused[kind]++;
        return -1;
    }

    private boolean isLie(int lie) {
        return now != null && lie >= 0 && lie < now.candle.length;
    }

    private boolean isPerson(int p) {
        return now != null && p >= 0 && p < now.home.length;
    }

    private boolean isWindow(int w) {
        return now != null && w >= 0 && w < now.plan.windows;
    }

    private boolean isLit(int lie) {
        return isLie(lie) && now.candle[lie] > 0;
    }

    private boolean can(int n, int least, int most) {
        return now != null && n >= least && n <= most && now.hour + n <= 999;
    }

    private String tapeText() {
        StringBuilder b = new StringBuilder();
        for (int k : tape) {
            b.append((char) k);
        }
        tape.clear();
        return b.toString();
    }

    int feed(int... numbers) {
        if (tape.size() + 20 > 1600) {
            return no(0);
        }
        for (int n : numbers) {
            for (int k = 3; k >= 0; k--) {
                tape.add(n >> 8 * k & 255);
            }
        }
        return tape.size();
    }

    int end(int n) {
        if (n < 0 || n > tape.size()) {
            no(0);
            return 0;
        }
        tape.subList(n, tape.size()).clear();
        return 1;
    }

    int street() {
        try {
            now = new World(readStreet(tapeText()));
            past = new ArrayList<>();
            seen = new ArrayList<>();
            fault = 0;
            place = -1;
            return now.plan.statements;
        } catch (Fault f) {
            fault = f.kind;
            place = f.place;
            return no(1);
        }
    }

    int fault(int what) {
        return what == 0 ? fault : what == 1 ? place : -1;
    }

    int has(int what) {
        if (what < 0 || what > 10) {
            return -1;
        }
        if (now == null) {
            return 0;
        }
        return new int[] {now.plan.windows, now.home.length, now.candle.length, now.plan.rows.size(), now.hour, now.tallow,
            now.count(l -> now.candle[l] > 0), now.believedCount(), Math.min(40, now.kept.size()), seen.size(),
            past.size()}[what];
    }

    int letter(int kind, int which, int k) {
        if (k < 0 || k > 5 || kind < 0 || kind > 1 || !(kind == 0 ? isPerson(which) : isLie(which))) {
            return -1;
        }
        String n = (kind == 0 ? now.plan.people : now.plan.lies).get(which);
        return k < n.length() ? n.charAt(k) - 'a' + 1 : 0;
    }

    int person(int p, int what) {
        if (!isPerson(p) || what < 0 || what > 2) {
            return -1;
        }
        return what == 0 ? now.home[p] : what == 1 ? now.plan.trusts.get(p)
                : now.count(l -> now.candle[l] > 0 && now.plan.owners.get(l) == p);
    }

    private boolean hangsOn(int lie, int on) {
        Integer base = now.plan.hangs.get(lie);
        return base != null && (base == on || hangsOn(base, on));
    }

    int lie(int lie, int what) {
        if (!isLie(lie)) {
            return -1;
        }
        switch (what) {
            case 0: return now.plan.owners.get(lie);
            case 1: return now.candle[lie];
            case 2: return now.told[lie];
            case 3: return now.believed(lie) ? 1 : 0;
            case 4: return now.plan.hangs.getOrDefault(lie, -1);
            case 5: {
                int bits = 0;
                for (int l = 0; l < now.candle.length; l++) {
                    bits += hangsOn(l, lie) ? 1 << l : 0;
                }
                return bits;
            }
            case 6: return now.near(lie);
            default: return -1;
        }
    }

    int draft(int window, int n) {
        return isWindow(window) && can(n, 0, 60) ? now.draughty(window, now.hour + n) : -1;
    }

    int plan(int k, int what) {
        if (now == null || k < 0 || k >= now.plan.rows.size() || what < 0 || what > 2) {
            return -1;
        }
        return now.plan.rows.get(k)[what];
    }

    int kept(int k, int what) {
        int told = has(8);
        if (k < 0 || k >= told || what < 0 || what > 1) {
            return -1;
        }
        return now.kept.get(now.kept.size() - told + k)[what];
    }

    int later(int lie, int n) {
        return isLie(lie) && can(n, 0, 60) ? now.ahead(n).candle[lie] : -1;
    }

    int held(int lie, int n) {
        return isLie(lie) && can(n, 0, 60) ? now.ahead(n).believed(lie) ? 1 : 0 : -1;
    }

    int out(int lie) {
        if (isLit(lie)) {
            for (int n = 1; can(n, 1, 60); n++) {
                if (now.ahead(n).candle[lie] == 0) {
                    return n;
                }
            }
        }
        return -1;
    }

    int trusted(int lie, int what) {
        if (!isLie(lie) || what < 0 || what > 1) {
            return -1;
        }
        int first = -1;
        for (int n = 0; can(n, 0, 60); n++) {
            boolean is = now.ahead(n).believed(lie);
            if (is && first < 0) {
                first = n;
            }
            if (what == 0 && is || what == 1 && !is && first >= 0) {
                return n;
            }
        }
        return -1;
    }

    int shorts(int lie, int n) {
        return isLie(lie) && !isLit(lie) ? together(1 << lie, n) : -1;
    }

    int together(int set, int n) {
        if (now == null || set <= 0 || set >= 1 << now.candle.length || !can(n, 1, 40)) {
            return -1;
        }
        for (int inches = 1; inches <= 99; inches++) {
            World w = now.copy();
            for (int l = 0; l < w.candle.length; l++) {
                if ((set & 1 << l) != 0 && w.candle[l] == 0) {
                    w.candle[l] = inches;
                    w.told[l] = 0;
                }
            }
            World then = w.ahead(n);
            if (then.count(l -> (set & 1 << l) != 0 && then.believed(l)) == Integer.bitCount(set)) {
                return inches;
            }
        }
        return -1;
    }

    int keystone(int n, int what) {
        if (what < 0 || what > 1 || has(6) == 0 || !can(n, 1, 40)) {
            return -1;
        }
        int[] best = {-1, 99};
        for (int l = 0; l < now.candle.length; l++) {
            if (isLit(l)) {
                World w = now.copy();
                w.snuff(l);
                int count = w.ahead(n).believedCount();
                if (count < best[1]) {
                    best = new int[] {l, count};
                }
            }
        }
        return best[what];
    }

    int change(int n, int what) {
        if (what < 0 || what > 2 || !can(n, 1, 40)) {
            return -1;
        }
        int[] best = {-1, -1, now.ahead(n).believedCount()};
        for (int p = 0; p < now.home.length; p++) {
            for (int q = p + 1; q < now.home.length; q++) {
                World w = now.copy();
                w.home[p] = now.home[q];
                w.home[q] = now.home[p];
                int count = w.ahead(n).believedCount();
                if (count > best[2]) {
                    best = new int[] {p, q, count};
                }
            }
        }
        return best[what];
    }

    int odds(int lie) {
        if (now == null || now.hour == 999 || lie != -1 && !isLie(lie)) {
            return -1;
        }
        int rows = 0;
        for (int number = 0; number < 100; number++) {
            for (int window = 0; window < now.plan.windows; window++) {
                World w = now.copy();
                if (number < now.plan.gust) {
                    w.gust(window);
                }
                w.pass();
                rows += lie == -1 || w.believed(lie) ? 1 : 0;
            }
        }
        return rows;
    }

    int see() {
        int[] bytes = tape.stream().mapToInt(k -> k).toArray();
        tape.clear();
        if (bytes.length == 0 || bytes.length % 3 != 0 || bytes.length > 48) {
            return no(1);
        }
        List<int[]> rows = new ArrayList<>();
        for (int k = 0; k < bytes.length; k += 3) {
            if (bytes[k] > 30 || !isWindow(bytes[k + 1]) || bytes[k + 2] > 8) {
                return no(1);
            }
            rows.add(Arrays.copyOfRange(bytes, k, k + 3));
        }
        seen = rows;
        return rows.size();
    }

    private World with(int lie, int inches) {
        World w = now.copy();
        w.candle[lie] = inches;
        return w;
    }

    private List<Integer> possible(int lie) {
        List<Integer> all = new ArrayList<>();
        for (int inches = 1; inches <= 99; inches++) {
            boolean so = true;
            for (int[] row : seen) {
                so = so && can(row[0], 0, 30) && with(lie, inches).ahead(row[0]).litIn(row[1]) == row[2];
            }
            if (so) {
                all.add(inches);
            }
        }
        return all;
    }

    int inches(int lie, int k) {
        if (!isLit(lie)) {
            return -1;
        }
        List<Integer> all = possible(lie);
        return k == -1 ? all.size() : k >= 0 && k < all.size() ? all.get(k) : -1;
    }

    int tells(int lie, int what) {
        if (!isLit(lie) || what < 0 || what > 2) {
            return -1;
        }
        List<Integer> all = possible(lie);
        if (all.isEmpty()) {
            return -1;
        }
        int[] best = {-1, -1, 100};
        List<World> worlds = new ArrayList<>();
        for (int inches : all) {
            worlds.add(with(lie, inches));
        }
        for (int n = 1; can(n, 1, 30); n++) {
            for (World w : worlds) {
                w.pass();
            }
            for (int window = 0; window < now.plan.windows; window++) {
                Map<Integer, Integer> groups = new TreeMap<>();
                for (World w : worlds) {
                    groups.merge(w.litIn(window), 1, Integer::sum);
                }
                int most = groups.values().stream().max(Integer::compare).orElse(0);
                if (most < best[2]) {
                    best = new int[] {n, window, most};
                }
            }
        }
        return best[0] < 0 ? -1 : best[what];
    }

    private void act() {
        past.add(now.copy());
        if (past.size() > 20) {
            past.remove(0);
        }
    }

    int light(int lie, int n) {
        if (!isLie(lie) || isLit(lie) || n < 1 || n > 99 || n > now.tallow) {
            no(2);
            return 0;
        }
        act();
        now.tallow -= n;
        now.candle[lie] = n;
        now.told[lie] = 0;
        return 1;
    }

    int snuff(int lie) {
        if (!isLit(lie)) {
            return no(2);
        }
        act();
        int left = now.candle[lie];
        now.snuff(lie);
        return left;
    }

    int move(int p, int window) {
        if (!isPerson(p) || !isWindow(window) || now.home[p] == window) {
            no(2);
            return 0;
        }
        act();
        now.home[p] = window;
        return 1;
    }

    int buy(int n) {
        if (now == null || n < 1 || n > 999 || now.tallow == 999) {
            return no(2);
        }
        act();
        now.tallow = Math.min(999, now.tallow + n);
        return now.tallow;
    }

    int hours(int n) {
        if (!can(n, 1, 100)) {
            return no(3);
        }
        act();
        int gone = 0;
        for (int k = 0; k < n; k++) {
            gone += now.pass();
        }
        return gone;
    }

    private int draw(int m) {
        x = (1103515245L * x + 12345L) % (1L << 31);
        return (int) (x / 64 % m);
    }

    int chance(int n) {
        if (!can(n, 1, 100)) {
            return no(3);
        }
        act();
        int gusts = 0;
        for (int k = 0; k < n; k++) {
            if (draw(100) < now.plan.gust) {
                gusts++;
                now.gust(draw(now.plan.windows));
            }
            now.pass();
        }
        return gusts;
    }

    int undo() {
        if (past.isEmpty()) {
            no(4);
            return 0;
        }
        now = past.remove(past.size() - 1);
        return 1;
    }

    int seed(int seed) {
        if (seed < 0) {
            no(5);
            return 0;
        }
        x = seed;
        return 1;
    }

    long ask() {
        String text = tapeText();
        if (now == null) {
            return NOTHING;
        }
        Text t = new Text(text);
        try {
            String word = t.next();
            if (!Set.of("first", "last", "often", "total", "most", "least").contains(word)) {
                throw t.no();
            }
            t.need(word);
            boolean isTest = Set.of("first", "last", "often").contains(word);
            t.parts = Set.of("number", "inches", "trust", "near", "draft", "told", "place", "lit", "held", "hour", "wax", "glow");
            Node node = isTest ? t.test() : t.sum();
            if (!t.over()) {
                throw t.no();
            }
            fault = 0;
            place = -1;
            return answer(word, node);
        } catch (Fault f) {
            fault = f.kind;
            place = f.place;
            return NOTHING;
        }
    }

    private long answer(String word, Node node) {
        List<Long> all = new ArrayList<>();
        for (int l = 0; l < now.candle.length; l++) {
            all.add(node.of(now, l, now.windowOf(l), now.hour));
        }
        switch (word) {
            case "first": return all.indexOf(1L);
            case "last": return all.lastIndexOf(1L);
            case "most": return all.stream().max(Long::compare).orElse(0L);
            case "least": return all.stream().min(Long::compare).orElse(0L);
            default: return all.stream().mapToLong(v -> v).sum();
        }
    }

    int image() {
        List<Integer> b = new ArrayList<>();
        int hour = has(4);
        int tallow = has(5);
        b.addAll(List.of(hour / 256, hour % 256, tallow / 256, tallow % 256));
        if (now != null) {
            for (int h : now.home) {
                b.add(h);
            }
            for (int l = 0; l < now.candle.length; l++) {
                b.add(now.candle[l]);
                b.add(now.told[l]);
            }
        }
        b.add(check(b));
        picture = b.stream().mapToInt(k -> k).toArray();
        return picture.length;
    }

    static int check(List<Integer> bytes) {
        int c = 167;
        for (int k : bytes) {
            c = (3 * c + k) % 251;
        }
        return c;
    }

    int octet(int k) {
        return k >= 0 && k < picture.length ? picture[k] : -1;
    }

    private boolean takeImage(List<Integer> b) {
        if (now == null || b.size() != 5 + now.home.length + 2 * now.candle.length) {
            return false;
        }
        World w = new World(now.plan);
        w.hour = b.get(0) * 256 + b.get(1);
        w.tallow = b.get(2) * 256 + b.get(3);
        boolean good = w.hour <= 999 && w.tallow <= 999;
        int k = 4;
        for (int p = 0; p < w.home.length; p++) {
            w.home[p] = b.get(k++);
            good = good && isWindow(w.home[p]);
        }
        for (int l = 0; l < w.candle.length; l++) {
            w.candle[l] = b.get(k++);
            w.told[l] = b.get(k++);
            good = good && w.candle[l] <= 99 && w.told[l] <= 99 && (w.candle[l] > 0 || w.told[l] == 0);
        }
        good = good && b.get(k) == check(b.subList(0, k));
        if (good) {
            now = w;
            past = new ArrayList<>();
        }
        return good;
    }

    int on() {
        boolean good = takeImage(new ArrayList<>(tape));
        tape.clear();
        if (!good) {
            no(5);
        }
        return good ? 1 : 0;
    }

    int status(int what) {
        return what >= 0 && what < 6 ? refused[what] : -1;
    }
}
