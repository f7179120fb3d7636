/** Promises 17 to 21: shorts, together, keystone, change, odds. */
final class SearchTest {
    public static void main(String[] args) {
        Due t = new Due();
        shortCandles(t);
        notRising(t);
        keystones(t);
        changes(t);
        chances(t);
        t.close();
    }

    private static void shortCandles(Due t) {
        t.street("street 5;person a at 0 trust 1;person b at 1 trust 1;lie x of a;lie y of b;lie z of b;hangs z on x;burns 2+near;tallow 10;", 9);
        t.due("shorts(0, 1)", 3, t.x.shorts(0, 1));
        t.due("shorts(0, 40)", 81, t.x.shorts(0, 40));
        t.due("shorts(0, 0)", -1, t.x.shorts(0, 0));
        t.due("shorts(0, 41)", -1, t.x.shorts(0, 41));
        t.due("shorts(0, -1)", -1, t.x.shorts(0, -1));
        t.due("shorts(3, 1)", -1, t.x.shorts(3, 1));
        t.due("shorts(-1, 1)", -1, t.x.shorts(-1, 1));
        t.due("shorts(2, 1), hanging on one not lit", -1, t.x.shorts(2, 1));
        t.due("together(5, 1)", 4, t.x.together(5, 1));
        t.due("together(7, 3)", 13, t.x.together(7, 3));
        t.due("together(7, 24)", 97, t.x.together(7, 24));
        t.due("together(7, 25), 99 not enough", -1, t.x.together(7, 25));
        t.due("together(0, 1)", -1, t.x.together(0, 1));
        t.due("together(8, 1)", -1, t.x.together(8, 1));
        t.due("together(9, 1)", -1, t.x.together(9, 1));
        t.due("together(-1, 1)", -1, t.x.together(-1, 1));
        t.due("together(1, 0)", -1, t.x.together(1, 0));
        t.due("together(1, 41)", -1, t.x.together(1, 41));
        t.due("tallow stays", 10, t.x.has(5));
        t.x.light(0, 7);
        t.due("shorts(0, 1) of a lit one", -1, t.x.shorts(0, 1));
        t.due("shorts(2, 2)", 7, t.x.shorts(2, 2));
        t.due("shorts(2, 3), the other one being out", -1, t.x.shorts(2, 3));
        t.due("together(5, 2) with one lit", 7, t.x.together(5, 2));
        t.due("together(1, 3) of a lit one", 1, t.x.together(1, 3));
        t.due("together(1, 4) of a lit one", -1, t.x.together(1, 4));
    }

    private static void notRising(Due t) {
        // A longer candle is not always better, and what the PLAN lights counts.
        t.street("street 5;person a at 0 trust 1;lie x of a;believes inches=4 or inches=9;", 4);
        t.due("shorts(0, 3)", 7, t.x.shorts(0, 3));
        t.street("street 5;person a at 0 trust 1;lie x of a;light x at 2 for 50;", 4);
        t.due("shorts(0, 3), lit anew by the plan", 1, t.x.shorts(0, 3));
        t.due("shorts(0, 2)", 3, t.x.shorts(0, 2));
        t.x.light(0, 99);
        t.x.snuff(0);
        t.street("street 5;person a at 0 trust 1;lie x of a;believes told>2;tallow 0;", 5);
        t.due("shorts(0, 2)", -1, t.x.shorts(0, 2));
        t.due("shorts(0, 3)", 4, t.x.shorts(0, 3));
    }

    private static void keystones(Due t) {
        t.street("street 9;person a at 0 trust 1;person b at 4 trust 1;lie x of b;lie y of a;lie z of b;hangs z on y;burns 1;", 8);
        t.due("keystone(1, 0), none lit", -1, t.x.keystone(1, 0));
        t.x.light(0, 20);
        t.x.light(1, 20);
        t.x.light(2, 20);
        t.due("keystone(1, 0)", 1, t.x.keystone(1, 0));
        t.due("keystone(1, 1)", 1, t.x.keystone(1, 1));
        t.due("keystone(20, 0), the first of like ones", 0, t.x.keystone(20, 0));
        t.due("keystone(20, 1)", 0, t.x.keystone(20, 1));
        t.due("keystone(40, 1)", 0, t.x.keystone(40, 1));
        t.due("keystone(0, 0)", -1, t.x.keystone(0, 0));
        t.due("keystone(41, 0)", -1, t.x.keystone(41, 0));
        t.due("keystone(1, 2)", -1, t.x.keystone(1, 2));
        t.due("keystone(1, -1)", -1, t.x.keystone(1, -1));
        // The tallow of the one that is snuffed serves the PLAN.
        t.street("street 9;person a at 0 trust 1;lie x of a;lie y of a;lie z of a;light z at 0 for 10;tallow 20;burns 1;", 8);
        t.x.light(0, 12);
        t.x.light(1, 8);
        t.due("keystone(1, 0)", 1, t.x.keystone(1, 0));
        t.due("keystone(1, 1)", 1, t.x.keystone(1, 1));
        t.due("nothing is snuffed", 2, t.x.has(6));
    }

    private static void changes(Due t) {
        t.street("street 9;person a at 0 trust 1;person b at 4 trust 1;person c at 8 trust 1;lie x of a;lie y of c;drafts place;believes draft>3;burns 1;", 9);
        t.x.light(0, 9);
        t.x.light(1, 9);
        t.due("change(1, 0)", 0, t.x.change(1, 0));
        t.due("change(1, 1)", 1, t.x.change(1, 1));
        t.due("change(1, 2)", 2, t.x.change(1, 2));
        t.due("change(9, 0)", -1, t.x.change(9, 0));
        t.due("change(9, 1)", -1, t.x.change(9, 1));
        t.due("change(9, 2)", 0, t.x.change(9, 2));
        t.due("change(0, 2)", -1, t.x.change(0, 2));
        t.due("change(41, 2)", -1, t.x.change(41, 2));
        t.due("change(1, 3)", -1, t.x.change(1, 3));
        t.due("change(1, -1)", -1, t.x.change(1, -1));
        t.due("nobody moves", 0, t.x.person(0, 0));
        t.x.move(0, 5);
        t.due("change(1, 0), none being as good", -1, t.x.change(1, 0));
        t.due("change(1, 1), none being as good", -1, t.x.change(1, 1));
        t.due("change(1, 2)", 2, t.x.change(1, 2));
        t.street("street 9;", 1);
        t.due("change(1, 0) without people", -1, t.x.change(1, 0));
        t.due("change(1, 2) without people", 0, t.x.change(1, 2));
    }

    private static void chances(Due t) {
        t.street("street 7;person a at 0 trust 1;person b at 4 trust 1;lie x of a;lie y of b;lie z of b;hangs y on x;light z at 0 for 9;gust 30;burns 1;", 10);
        t.x.light(0, 5);
        t.x.light(1, 5);
        t.due("odds(-1)", 700, t.x.odds(-1));
        t.due("odds(0): all but 30 of the window", 670, t.x.odds(0));
        t.due("odds(1): two windows", 640, t.x.odds(1));
        t.due("odds(2): lit behind the gust", 700, t.x.odds(2));
        t.due("odds(3)", -1, t.x.odds(3));
        t.due("odds(-2)", -1, t.x.odds(-2));
        t.x.hours(4);
        t.due("odds(0) of a last inch", 0, t.x.odds(0));
        t.due("odds(2)", 670, t.x.odds(2));
        t.street("street 7;person a at 0 trust 1;lie x of a;gust 100;", 4);
        t.x.light(0, 5);
        t.due("odds(0) with gust 100", 600, t.x.odds(0));
    }
}
