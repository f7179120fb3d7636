/** Promises 13 to 16: later, held, out, trusted, and the HOUR of Terms II. */
final class AheadTest {
    public static void main(String[] args) {
        Due t = new Due();
        t.street("street 4;person a at 0 trust 1;person b at 1 trust 2;lie x of a;lie y of b;lie z of a;"
                + "light z at 3 for 5;light x at 5 for 4;burns 1+near;believes told>0;tallow 20;", 11);
        t.x.light(0, 7);
        t.x.light(1, 3);
        // x: 7 5 3 2 0 (z beside it from HOUR 3 on), then 4 anew in HOUR 5; y: 3 1 0; z: 5 in HOUR 3, 3 2, x is lit, 0.
        int[][] lengths = {{7, 5, 3, 2, 0, 0, 2, 1, 0, 0}, {3, 1, 0, 0, 0, 0, 0, 0, 0, 0}, {0, 0, 0, 0, 3, 2, 0, 0, 0, 0}};
        int[][] held = {{0, 1, 1, 1, 0, 0, 1, 1, 0, 0}, {0, 1, 0, 0, 0, 0, 0, 0, 0, 0}, {0, 0, 0, 0, 1, 1, 0, 0, 0, 0}};
        for (int l = 0; l < 3; l++) {
            for (int n = 0; n < 10; n++) {
                t.due("later(" + l + ", " + n + ")", lengths[l][n], t.x.later(l, n));
                t.due("held(" + l + ", " + n + ")", held[l][n], t.x.held(l, n));
            }
        }
        t.due("nothing has changed", 7, t.x.lie(0, 1));
        t.due("nothing has changed", 0, t.x.has(4));
        t.due("nothing has changed", 10, t.x.has(5));
        bounds(t);
        t.due("out(0)", 4, t.x.out(0));
        t.due("out(1)", 2, t.x.out(1));
        t.due("out(2), not lit now", -1, t.x.out(2));
        t.due("out(3)", -1, t.x.out(3));
        t.due("out(-1)", -1, t.x.out(-1));
        int[][] trusted = {{1, 4}, {1, 2}, {4, 6}};
        for (int l = 0; l < 3; l++) {
            t.due("trusted(" + l + ", 0)", trusted[l][0], t.x.trusted(l, 0));
            t.due("trusted(" + l + ", 1)", trusted[l][1], t.x.trusted(l, 1));
        }
        t.due("trusted(0, 2)", -1, t.x.trusted(0, 2));
        t.due("trusted(0, -1)", -1, t.x.trusted(0, -1));
        t.due("trusted(3, 0)", -1, t.x.trusted(3, 0));
        t.due("trusted(-1, 0)", -1, t.x.trusted(-1, 0));
        t.x.hours(4);
        t.due("later as it came", 0, t.x.lie(0, 1));
        t.due("later as it came", 3, t.x.lie(2, 1));
        t.due("trusted(2, 0) now", 0, t.x.trusted(2, 0));
        t.due("trusted(1, 0) never", -1, t.x.trusted(1, 0));
        t.due("trusted(1, 1) never", -1, t.x.trusted(1, 1));
        longOnes(t);
        lastHour(t);
        burning(t);
        t.close();
    }

    private static void bounds(Due t) {
        t.due("later(0, 60)", 0, t.x.later(0, 60));
        t.due("later(0, 61)", -1, t.x.later(0, 61));
        t.due("later(0, -1)", -1, t.x.later(0, -1));
        t.due("later(3, 0)", -1, t.x.later(3, 0));
        t.due("later(-1, 0)", -1, t.x.later(-1, 0));
        t.due("held(0, 60)", 0, t.x.held(0, 60));
        t.due("held(0, 61)", -1, t.x.held(0, 61));
        t.due("held(0, -1)", -1, t.x.held(0, -1));
        t.due("held(3, 0)", -1, t.x.held(3, 0));
        t.due("held(-1, 0)", -1, t.x.held(-1, 0));
    }

    private static void longOnes(Due t) {
        t.street("street 2;person a at 0 trust 1;lie x of a;", 3);
        t.x.light(0, 60);
        t.due("out(0) of 60 inches", 60, t.x.out(0));
        t.due("trusted(0, 0)", 0, t.x.trusted(0, 0));
        t.due("trusted(0, 1)", 60, t.x.trusted(0, 1));
        t.x.snuff(0);
        t.x.light(0, 61);
        t.due("out(0) of 61 inches", -1, t.x.out(0));
        t.due("trusted(0, 1)", -1, t.x.trusted(0, 1));
        t.due("later(0, 60)", 1, t.x.later(0, 60));
        // It has been lit for 99 HOURS at most.
        t.street("street 2;person a at 0 trust 1;lie x of a;burns 0;", 4);
        t.x.light(0, 1);
        t.x.hours(98);
        t.due("told", 98, t.x.lie(0, 2));
        t.x.hours(3);
        t.due("told", 99, t.x.lie(0, 2));
    }

    private static void lastHour(Due t) {
        t.street("street 2;person a at 0 trust 1;lie x of a;burns 0;light x at 999 for 9;", 5);
        for (int k = 0; k < 9; k++) {
            t.x.hours(100);
        }
        t.due("hours(96)", 0, t.x.hours(96));
        t.due("HOUR", 996, t.x.has(4));
        t.x.light(0, 5);
        t.due("later(0, 3)", 5, t.x.later(0, 3));
        t.due("later(0, 4)", -1, t.x.later(0, 4));
        t.due("held(0, 3)", 1, t.x.held(0, 3));
        t.due("held(0, 4)", -1, t.x.held(0, 4));
        t.due("draft(0, 3)", 0, t.x.draft(0, 3));
        t.due("draft(0, 4)", -1, t.x.draft(0, 4));
        t.due("out(0)", -1, t.x.out(0));
        t.due("trusted(0, 1)", -1, t.x.trusted(0, 1));
        t.due("shorts and together reach", -1, t.x.together(1, 4));
        t.due("shorts and together reach", 1, t.x.together(1, 3));
        t.due("keystone(3, 0)", 0, t.x.keystone(3, 0));
        t.due("keystone(4, 0)", -1, t.x.keystone(4, 0));
        t.due("change(3, 2)", 1, t.x.change(3, 2));
        t.due("change(4, 2)", -1, t.x.change(4, 2));
        t.due("hours(4)", -1, t.x.hours(4));
        t.due("hours(3)", 0, t.x.hours(3));
        t.due("HOUR", 999, t.x.has(4));
        t.due("hours(1)", -1, t.x.hours(1));
        t.due("chance(1)", -1, t.x.chance(1));
        t.due("later(0, 0)", 5, t.x.later(0, 0));
        t.due("later(0, 1)", -1, t.x.later(0, 1));
        t.due("odds(0)", -1, t.x.odds(0));
        t.due("odds(-1)", -1, t.x.odds(-1));
        t.due("tells(0, 0)", -1, t.x.tells(0, 0));
        t.due("inches(0, -1)", 99, t.x.inches(0, -1));
        t.due("status(3)", 3, t.x.status(3));
    }

    private static void burning(Due t) {
        // Below 0 nothing burns; above its length all of it does; the words mean what they are ahead of the HOUR.
        t.street("street 9;person a at 4 trust 1;lie x of a;drafts place;burns told*draft+inches-hour-10;", 5);
        t.x.light(0, 10);
        int[] lengths = {10, 10, 7, 4, 1, 0};
        for (int n = 0; n < lengths.length; n++) {
            t.due("later(0, " + n + ")", lengths[n], t.x.later(0, n));
        }
        // All burn at once: both are near each other in the HOUR in which they end.
        t.street("street 9;person a at 4 trust 1;person b at 5 trust 1;person c at 7 trust 1;lie x of a;lie y of b;lie z of c;", 7);
        t.x.light(0, 2);
        t.x.light(1, 2);
        t.x.light(2, 2);
        t.due("hours(1)", 2, t.x.hours(1));
        t.due("one further off", 1, t.x.lie(2, 1));
        // A row whose LIE is lit, or for which there is not tallow enough, is passed over.
        t.street("street 9;person a at 4 trust 1;lie x of a;light x at 0 for 30;light x at 0 for 9;light x at 0 for 5;light x at 1 for 6;tallow 20;", 8);
        t.x.hours(2);
        t.due("candle", 7, t.x.lie(0, 1));
        t.due("tallow", 11, t.x.has(5));
    }
}
