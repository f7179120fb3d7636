/** Promises 25 to 32: light, snuff, move, buy, hours, chance, undo, seed. */
final class ActTest {
    private static final String STREET = "street 4;person a at 0 trust 1;person b at 3 trust 1;lie x of a;lie y of b;";

    public static void main(String[] args) {
        Due t = new Due();
        withoutStreet(t);
        lighting(t);
        moving(t);
        buying(t);
        passing(t);
        gusts(t);
        undoing(t);
        t.close();
    }

    private static void withoutStreet(Due t) {
        t.due("light", false, t.x.light(0, 1));
        t.due("snuff", -1, t.x.snuff(0));
        t.due("move", false, t.x.move(0, 0));
        t.due("buy", -1, t.x.buy(1));
        t.due("hours", -1, t.x.hours(1));
        t.due("chance", -1, t.x.chance(1));
        t.due("undo", false, t.x.undo());
        t.due("seed(0)", true, t.x.seed(0));
        t.due("seed(-1)", false, t.x.seed(-1));
        t.due("seed(least)", false, t.x.seed(Integer.MIN_VALUE));
        t.due("seed(most)", true, t.x.seed(Integer.MAX_VALUE));
        int[] refused = {0, 0, 4, 2, 1, 2};
        for (int what = 0; what < 6; what++) {
            t.due("status(" + what + ")", refused[what], t.x.status(what));
        }
    }

    private static void lighting(Due t) {
        t.anew();
        t.street(STREET + "tallow 120;", 6);
        t.due("light(0, 0)", false, t.x.light(0, 0));
        t.due("light(0, 100)", false, t.x.light(0, 100));
        t.due("light(0, -1)", false, t.x.light(0, -1));
        t.due("light(2, 1)", false, t.x.light(2, 1));
        t.due("light(-1, 1)", false, t.x.light(-1, 1));
        t.due("status(2)", 5, t.x.status(2));
        t.due("light(0, 99)", true, t.x.light(0, 99));
        t.due("light(0, 1), lit", false, t.x.light(0, 1));
        t.due("light(1, 22), tallow 21", false, t.x.light(1, 22));
        t.due("light(1, 21)", true, t.x.light(1, 21));
        t.due("tallow", 0, t.x.has(5));
        t.due("candle", 21, t.x.lie(1, 1));
        t.due("told", 0, t.x.lie(1, 2));
        t.due("status(2)", 7, t.x.status(2));
        t.x.hours(1);
        t.due("snuff(0)", 98, t.x.snuff(0));
        t.due("tallow", 98, t.x.has(5));
        t.due("candle", 0, t.x.lie(0, 1));
        t.due("told", 0, t.x.lie(0, 2));
        t.due("snuff(0), not lit", -1, t.x.snuff(0));
        t.due("snuff(2)", -1, t.x.snuff(2));
        t.due("snuff(-1)", -1, t.x.snuff(-1));
        t.due("status(2)", 10, t.x.status(2));
        t.due("acts", 4, t.x.has(10));
        // What is beyond 999 of tallow is lost, but told.
        t.due("buy(890)", 988, t.x.buy(890));
        t.due("snuff(1)", 20, t.x.snuff(1));
        t.due("tallow", 999, t.x.has(5));
    }

    private static void moving(Due t) {
        t.anew();
        t.street(STREET, 5);
        t.x.light(0, 5);
        t.x.light(1, 5);
        t.due("near", 0, t.x.lie(0, 6));
        t.due("move(0, 0), there", false, t.x.move(0, 0));
        t.due("move(0, 4)", false, t.x.move(0, 4));
        t.due("move(0, -1)", false, t.x.move(0, -1));
        t.due("move(2, 1)", false, t.x.move(2, 1));
        t.due("move(-1, 1)", false, t.x.move(-1, 1));
        t.due("status(2)", 5, t.x.status(2));
        t.due("move(0, 2)", true, t.x.move(0, 2));
        t.due("window", 2, t.x.person(0, 0));
        t.due("near", 1, t.x.lie(0, 6));
        t.due("move(0, 3)", true, t.x.move(0, 3));
        t.due("near", 1, t.x.lie(1, 6));
    }

    private static void buying(Due t) {
        t.anew();
        t.street(STREET, 5);
        t.due("buy(0)", -1, t.x.buy(0));
        t.due("buy(-1)", -1, t.x.buy(-1));
        t.due("buy(1000)", -1, t.x.buy(1000));
        t.due("status(2)", 3, t.x.status(2));
        t.due("buy(1)", 101, t.x.buy(1));
        t.due("buy(999)", 999, t.x.buy(999));
        t.due("buy(1) with 999", -1, t.x.buy(1));
        t.due("status(2)", 4, t.x.status(2));
        t.due("undo", true, t.x.undo());
        t.due("tallow", 101, t.x.has(5));
        t.street("street 2;tallow 0;", 2);
        t.due("buy(999)", 999, t.x.buy(999));
    }

    private static void passing(Due t) {
        t.anew();
        t.street(STREET + "light x at 5 for 2;", 6);
        t.due("hours(0)", -1, t.x.hours(0));
        t.due("hours(-1)", -1, t.x.hours(-1));
        t.due("hours(101)", -1, t.x.hours(101));
        t.due("chance(0)", -1, t.x.chance(0));
        t.due("chance(101)", -1, t.x.chance(101));
        t.due("status(3)", 5, t.x.status(3));
        t.x.light(0, 3);
        t.x.light(1, 50);
        t.due("hours(100)", 3, t.x.hours(100));
        t.due("HOUR", 100, t.x.has(4));
        t.due("kept", 3, t.x.has(8));
        t.due("kept(1, 0)", 6, t.x.kept(1, 0));
        t.due("kept(2, 0)", 49, t.x.kept(2, 0));
        t.due("chance(100)", 0, t.x.chance(100));
        t.due("HOUR", 200, t.x.has(4));
        t.due("acts", 4, t.x.has(10));
    }

    private static int drawn(long[] x, int many) {
        x[0] = (1103515245L * x[0] + 12345L) % 2147483648L;
        return (int) (x[0] / 64 % many);
    }

    private static void gusts(Due t) {
        t.anew();
        t.street(STREET + "lie z of a;gust 40;burns 0;light x at 3 for 9;", 9);
        long[] x = {1};
        int[] window = {0, 3, 0};
        boolean[] lit = {true, true, true};
        t.x.light(0, 9);
        t.x.light(1, 9);
        t.x.light(2, 9);
        int kept = 0;
        for (int hour = 0; hour < 60; hour++) {
            int gusts = 0;
            if (drawn(x, 100) < 40) {
                gusts = 1;
                int w = drawn(x, 4);
                for (int l = 0; l < 3; l++) {
                    if (lit[l] && window[l] == w) {
                        lit[l] = false;
                        kept++;
                    }
                }
            }
            lit[0] = lit[0] || hour == 3;
            t.due("chance(1) in HOUR " + hour, gusts, t.x.chance(1));
            t.due("kept in HOUR " + hour, kept, t.x.has(8));
            for (int l = 0; l < 3; l++) {
                t.due("lit in HOUR " + hour, lit[l] ? 9 : 0, t.x.lie(l, 1));
            }
        }
        t.due("the gust has blown", true, kept >= 3);
        // The same seed gives the same HOURS; what is left of a candle that a gust puts out is lost.
        t.due("seed(1)", true, t.x.seed(1));
        t.street(STREET + "lie z of a;gust 100;burns 0;", 8);
        t.x.light(0, 9);
        t.x.light(1, 9);
        t.x.light(2, 9);
        t.due("chance(60)", 60, t.x.chance(60));
        t.due("tallow", 73, t.x.has(5));
        t.due("lit", 0, t.x.has(6));
        t.due("kept", 3, t.x.has(8));
        t.due("acts", 4, t.x.has(10));
        // Of one gust LIE by LIE, and those of the gust ahead of those burnt down.
        t.street("street 2;person a at 0 trust 1;person b at 1 trust 1;lie x of b;lie y of a;lie z of b;lie u of a;gust 100;burns 9;", 9);
        for (int seed = 1; seed <= 2; seed++) {
            t.x.seed(seed);
            for (int l = 0; l < 4; l++) {
                t.x.light(l, 9);
            }
            long[] s = {seed};
            drawn(s, 100);
            int blown = drawn(s, 2);
            t.due("chance(1)", 1, t.x.chance(1));
            int[] order = blown == 1 ? new int[] {0, 2, 1, 3} : new int[] {1, 3, 0, 2};
            for (int k = 0; k < 4; k++) {
                t.due("kept of seed " + seed, order[k], t.x.kept(4 * (seed - 1) + k, 1));
            }
        }
        seedStays(t);
    }

    private static void seedStays(Due t) {
        t.anew();
        t.street("street 30;gust 50;", 2);
        long[] x = {1};
        for (int round = 0; round < 6; round++) {
            int gusts = 0;
            for (int k = 0; k < 10; k++) {
                if (drawn(x, 100) < 50) {
                    gusts++;
                    drawn(x, 30);
                }
            }
            t.due("chance(10)", gusts, t.x.chance(10));
            if (round % 2 == 0) {
                t.due("undo", true, t.x.undo());
            } else {
                t.street("street 30;gust 50;", 2);
            }
        }
        x[0] = 12345;
        t.due("seed", true, t.x.seed(12345));
        t.due("seed(-5)", false, t.x.seed(-5));
        t.due("chance(1)", drawn(x, 100) < 50 ? 1 : 0, t.x.chance(1));
    }

    private static void undoing(Due t) {
        t.anew();
        t.street(STREET + "gust 100;", 6);
        t.due("undo", false, t.x.undo());
        t.due("status(4)", 1, t.x.status(4));
        t.x.light(0, 9);
        t.x.light(0, 9);
        t.x.move(1, 2);
        t.x.hours(2);
        t.x.snuff(0);
        t.x.buy(5);
        t.x.light(1, 3);
        t.x.hours(3);
        t.x.chance(1);
        int[][] states = {{6, 100, 0, 2, 1}, {5, 100, 0, 2, 1}, {2, 100, 3, 2, 0}, {2, 103, 0, 2, 0}, {2, 98, 0, 2, 0}, {2, 91, 0, 2, 0},
            {0, 91, 0, 2, 0}, {0, 91, 0, 3, 0}, {0, 100, 0, 3, 0}};
        for (int k = 0; k < states.length; k++) {
            t.due("HOUR, undone " + k, states[k][0], t.x.has(4));
            t.due("tallow, undone " + k, states[k][1], t.x.has(5));
            t.due("candle, undone " + k, states[k][2], t.x.lie(1, 1));
            t.due("window, undone " + k, states[k][3], t.x.person(1, 0));
            t.due("kept, undone " + k, states[k][4], t.x.has(8));
            t.due("acts, undone " + k, states.length - 1 - k, t.x.has(10));
            t.due("undo " + k, k + 1 < states.length, t.x.undo());
        }
        t.due("status(4)", 2, t.x.status(4));
        for (int k = 0; k < 30; k++) {
            t.x.buy(1);
        }
        for (int k = 0; k < 20; k++) {
            t.due("acts", 20 - k, t.x.has(10));
            t.due("undo", true, t.x.undo());
        }
        t.due("undo", false, t.x.undo());
        t.due("tallow", 110, t.x.has(5));
    }
}
