/** Promises 22 to 24: see, inches, tells. */
final class SightTest {
    public static void main(String[] args) {
        Due t = new Due();
        seeing(t);
        lengths(t);
        telling(t);
        lastHours(t);
        t.close();
    }

    private static void seen(Due t, int rows, int... bytes) {
        t.tape(bytes);
        t.due("see() of " + java.util.Arrays.toString(bytes), rows, t.x.see());
        t.due("the tape goes", false, t.x.end(1));
    }

    private static void seeing(Due t) {
        seen(t, -1, 0, 0, 0);
        t.due("status(1) without a street", 1, t.x.status(1));
        t.street("street 5;person a at 2 trust 1;lie x of a;", 3);
        seen(t, 1, 0, 0, 0);
        seen(t, 2, 30, 4, 8, 0, 2, 1);
        t.due("has(9)", 2, t.x.has(9));
        int before = t.x.status(1);
        seen(t, -1);
        seen(t, -1, 1);
        seen(t, -1, 1, 1);
        seen(t, -1, 1, 1, 1, 1);
        seen(t, -1, 31, 1, 1);
        seen(t, -1, 1, 5, 1);
        seen(t, -1, 1, 1, 9);
        seen(t, -1, 1, 1, 1, 255, 1, 1);
        seen(t, -1, new int[17 * 3]);
        t.due("status(1)", before + 9, t.x.status(1));
        t.due("has(9) stays", 2, t.x.has(9));
        seen(t, 16, new int[16 * 3]);
        t.due("has(9)", 16, t.x.has(9));
        t.x.light(0, 3);
        t.x.undo();
        t.due("has(9) behind undo", 16, t.x.has(9));
        t.street("street 5;person a at 2 trust 1;lie x of a;", 3);
        t.due("has(9) of a second street", 0, t.x.has(9));
    }

    private static void lengths(Due t) {
        // x burns 1 an HOUR, 2 while y (10 inches, beside it) is lit.
        t.street("street 5;person a at 2 trust 1;person b at 3 trust 1;lie x of a;lie y of b;", 5);
        t.due("inches of one not lit", -1, t.x.inches(0, -1));
        t.x.light(0, 20);
        t.due("inches(0, -1), nothing seen", 99, t.x.inches(0, -1));
        t.due("inches(0, 0)", 1, t.x.inches(0, 0));
        t.due("inches(0, 98)", 99, t.x.inches(0, 98));
        t.due("inches(0, 99)", -1, t.x.inches(0, 99));
        t.due("inches(0, -2)", -1, t.x.inches(0, -2));
        t.due("inches(1, -1), not lit", -1, t.x.inches(1, -1));
        t.due("inches(2, -1)", -1, t.x.inches(2, -1));
        t.due("inches(-1, -1)", -1, t.x.inches(-1, -1));
        seen(t, 2, 5, 2, 1, 9, 2, 0);
        dueInches(t, 0, 6, 9);
        seen(t, 1, 5, 1, 0);
        dueInches(t, 0, 1, 99);
        seen(t, 1, 5, 1, 1);
        t.due("inches(0, -1), none", 0, t.x.inches(0, -1));
        t.due("inches(0, 0), none", -1, t.x.inches(0, 0));
        seen(t, 1, 0, 2, 1);
        dueInches(t, 0, 1, 99);
        seen(t, 1, 0, 2, 0);
        t.due("inches(0, -1), not lit now", 0, t.x.inches(0, -1));
        // y ends behind 5 HOURS if x is lit so long; x then has lost 10.
        t.x.light(1, 10);
        seen(t, 1, 6, 2, 1);
        dueInches(t, 0, 12, 99);
        seen(t, 2, 4, 2, 0, 5, 3, 1);
        dueInches(t, 0, 1, 8);
        t.due("lengths stay", 20, t.x.lie(0, 1));
        // What is seen stays what it is while HOURS pass: so many from now on.
        t.x.hours(1);
        dueInches(t, 0, 1, 4);
        t.due("told stays", 1, t.x.lie(0, 2));
    }

    private static void dueInches(Due t, int lie, int least, int most) {
        t.due("inches(" + lie + ", -1)", most - least + 1, t.x.inches(lie, -1));
        for (int k = 0; k <= most - least; k++) {
            t.due("inches(" + lie + ", " + k + ")", least + k, t.x.inches(lie, k));
        }
        t.due("inches(" + lie + ", behind them)", -1, t.x.inches(lie, most - least + 1));
    }

    private static void dueTells(Due t, int lie, int hours, int window, int left) {
        t.due("tells(" + lie + ", 0)", hours, t.x.tells(lie, 0));
        t.due("tells(" + lie + ", 1)", window, t.x.tells(lie, 1));
        t.due("tells(" + lie + ", 2)", left, t.x.tells(lie, 2));
    }

    private static void telling(Due t) {
        t.anew();
        t.street("street 5;person a at 2 trust 1;person b at 4 trust 1;lie x of a;lie y of b;burns 2;", 6);
        t.due("tells(0, 0), not lit", -1, t.x.tells(0, 0));
        t.x.light(0, 20);
        // Behind 25 HOURS 50 of 99 lengths are out, behind 24 only 48: 51 are left at the most.
        dueTells(t, 0, 25, 2, 50);
        t.due("tells(0, 3)", -1, t.x.tells(0, 3));
        t.due("tells(0, -1)", -1, t.x.tells(0, -1));
        t.due("tells(1, 0)", -1, t.x.tells(1, 0));
        t.due("tells(2, 0)", -1, t.x.tells(2, 0));
        t.due("tells(-1, 0)", -1, t.x.tells(-1, 0));
        seen(t, 1, 4, 2, 0);
        // 1 to 8 inches: behind 2 HOURS half of them.
        dueTells(t, 0, 2, 2, 4);
        seen(t, 2, 4, 2, 0, 3, 2, 1);
        // 7 or 8 inches: nothing tells, the first HOUR and WINDOW do as well as others.
        dueTells(t, 0, 1, 0, 2);
        seen(t, 1, 4, 1, 1);
        t.due("tells(0, 0), no length left", -1, t.x.tells(0, 0));
        // Both burn 9 an HOUR till y is out behind 4; then x burns 1: behind 17 HOURS it is lit if it has 50 now.
        t.street("street 5;person b at 1 trust 1;person a at 2 trust 1;lie x of a;lie y of b;burns 1+8*near;", 6);
        t.x.light(0, 60);
        t.x.light(1, 30);
        dueTells(t, 0, 17, 2, 50);
    }

    private static void lastHours(Due t) {
        t.anew();
        t.street("street 5;person a at 2 trust 1;lie x of a;burns 9;", 4);
        for (int k = 0; k < 9; k++) {
            t.x.hours(100);
        }
        t.x.hours(97);
        t.x.light(0, 50);
        seen(t, 1, 2, 2, 1);
        dueInches(t, 0, 19, 99);
        dueTells(t, 0, 1, 0, 81);
        seen(t, 1, 3, 2, 1);
        t.due("inches(0, -1) beyond HOUR 999", 0, t.x.inches(0, -1));
        t.due("tells(0, 0) beyond HOUR 999", -1, t.x.tells(0, 0));
        seen(t, 2, 0, 2, 1, 3, 0, 0);
        t.due("inches(0, -1) beyond HOUR 999", 0, t.x.inches(0, -1));
        seen(t, 1, 0, 2, 1);
        dueTells(t, 0, 2, 2, 81);
        t.x.hours(1);
        dueTells(t, 0, 1, 2, 90);
        t.x.hours(1);
        t.due("tells(0, 0) at HOUR 999", -1, t.x.tells(0, 0));
        dueInches(t, 0, 1, 99);
    }
}
