/** Promises 6 to 12: has, letter, person, lie, draft, plan, kept. */
final class ShowTest {
    static final String STREET = "street 6;person ann at 1 trust 6;person zoe at 2 trust 0;person bob at 5 trust 9;"
            + "lie a of ann;lie b of zoe;lie secret of bob;lie d of ann;hangs b on a;hangs secret on b;hangs d on a;"
            + "light d at 2 for 30;light b at 4 for 1;tallow 40;drafts place*3-hour;burns 2;believes inches>3;gust 9;";

    public static void main(String[] args) {
        Due t = new Due();
        t.street(STREET, 18);
        counts(t);
        parts(t);
        keptOnes(t);
        believed(t);
        t.close();
    }

    private static void counts(Due t) {
        t.x.light(0, 10);
        t.x.light(1, 4);
        t.x.light(2, 3);
        int[] want = {6, 3, 4, 2, 0, 23, 3, 2, 0, 0, 3};
        for (int what = 0; what < want.length; what++) {
            t.due("has(" + what + ")", want[what], t.x.has(what));
        }
        t.due("has(11)", -1, t.x.has(11));
        t.due("has(-1)", -1, t.x.has(-1));
    }

    private static void parts(Due t) {
        int[] secret = {19, 5, 3, 18, 5, 20};
        for (int k = 0; k < 6; k++) {
            t.due("letter(1, 2, " + k + ")", secret[k], t.x.letter(1, 2, k));
        }
        t.due("letter(0, 1, 0)", 26, t.x.letter(0, 1, 0));
        t.due("letter(0, 1, 3)", 0, t.x.letter(0, 1, 3));
        t.due("letter(0, 1, 5)", 0, t.x.letter(0, 1, 5));
        t.due("letter(0, 1, 6)", -1, t.x.letter(0, 1, 6));
        t.due("letter(0, 1, -1)", -1, t.x.letter(0, 1, -1));
        t.due("letter(0, 3, 0)", -1, t.x.letter(0, 3, 0));
        t.due("letter(1, 3, 0)", 4, t.x.letter(1, 3, 0));
        t.due("letter(1, 4, 0)", -1, t.x.letter(1, 4, 0));
        t.due("letter(1, -1, 0)", -1, t.x.letter(1, -1, 0));
        t.due("letter(2, 0, 0)", -1, t.x.letter(2, 0, 0));
        t.due("letter(-1, 0, 0)", -1, t.x.letter(-1, 0, 0));

        int[][] people = {{1, 6, 1, -1}, {2, 0, 1, -1}, {5, 9, 1, -1}, {-1, -1, -1, -1}};
        for (int p = 0; p < people.length; p++) {
            for (int what = 0; what < 4; what++) {
                t.due("person(" + p + ", " + what + ")", people[p][what], t.x.person(p, what));
            }
        }
        t.due("person(-1, 0)", -1, t.x.person(-1, 0));
        t.due("person(0, -1)", -1, t.x.person(0, -1));

        // secret is lit with 3 inches: too short to be believed; d is not lit, but one beside it and one with it are.
        int[][] lies = {{0, 10, 0, 1, -1, 14, 1, -1}, {1, 4, 0, 1, 0, 4, 1, -1}, {2, 3, 0, 0, 1, 0, 0, -1}, {0, 0, 0, 0, 0, 0, 2, -1},
            {-1, -1, -1, -1, -1, -1, -1, -1}};
        for (int l = 0; l < lies.length; l++) {
            for (int what = 0; what < 8; what++) {
                t.due("lie(" + l + ", " + what + ")", lies[l][what], t.x.lie(l, what));
            }
        }
        t.due("lie(-1, 0)", -1, t.x.lie(-1, 0));
        t.due("lie(0, -1)", -1, t.x.lie(0, -1));

        t.due("draft(0, 0)", 0, t.x.draft(0, 0));
        t.due("draft(1, 0)", 3, t.x.draft(1, 0));
        t.due("draft(1, 4), below 0", 0, t.x.draft(1, 4));
        t.due("draft(3, 0)", 9, t.x.draft(3, 0));
        t.due("draft(5, 0), above 9", 9, t.x.draft(5, 0));
        t.due("draft(5, 6)", 9, t.x.draft(5, 6));
        t.due("draft(5, 7)", 8, t.x.draft(5, 7));
        t.due("draft(5, 60)", 0, t.x.draft(5, 60));
        t.due("draft(5, 61)", -1, t.x.draft(5, 61));
        t.due("draft(5, -1)", -1, t.x.draft(5, -1));
        t.due("draft(6, 0)", -1, t.x.draft(6, 0));
        t.due("draft(-1, 0)", -1, t.x.draft(-1, 0));

        int[][] rows = {{3, 2, 30, -1}, {1, 4, 1, -1}, {-1, -1, -1, -1}};
        for (int k = 0; k < rows.length; k++) {
            for (int what = 0; what < 4; what++) {
                t.due("plan(" + k + ", " + what + ")", rows[k][what], t.x.plan(k, what));
            }
        }
        t.due("plan(-1, 0)", -1, t.x.plan(-1, 0));
        t.due("plan(0, -1)", -1, t.x.plan(0, -1));
    }

    private static void keptOnes(Due t) {
        // b (4) and secret (3) both end in HOUR 1; the row at HOUR 2 asks for 30 of the 23 inches there are.
        t.due("hours(3)", 2, t.x.hours(3));
        t.due("lie(3, 1)", 0, t.x.lie(3, 1));
        t.due("lie(0, 1)", 4, t.x.lie(0, 1));
        t.due("lie(0, 2)", 3, t.x.lie(0, 2));
        t.due("lie(1, 2) of one that is out", 0, t.x.lie(1, 2));
        t.due("person(1, 2)", 0, t.x.person(1, 2));
        // HOUR 3 leaves 2 inches; in HOUR 4 b is lit as planned and ends at once, with a.
        t.due("hours(2)", 2, t.x.hours(2));
        int[][] kept = {{1, 1}, {1, 2}, {4, 0}, {4, 1}};
        t.due("has(8)", kept.length, t.x.has(8));
        for (int k = 0; k < kept.length; k++) {
            t.due("kept(" + k + ", 0)", kept[k][0], t.x.kept(k, 0));
            t.due("kept(" + k + ", 1)", kept[k][1], t.x.kept(k, 1));
        }
        t.due("kept(4, 0)", -1, t.x.kept(4, 0));
        t.due("kept(-1, 0)", -1, t.x.kept(-1, 0));
        t.due("kept(0, 2)", -1, t.x.kept(0, 2));
        t.due("kept(0, -1)", -1, t.x.kept(0, -1));
        t.due("tallow", 22, t.x.has(5));

        // Snuffed ones are not kept; the last 40 are told.
        t.street("street 2;person p at 0 trust 0;lie l of p;tallow 999;", 4);
        t.x.light(0, 5);
        t.x.snuff(0);
        t.due("has(8) behind snuff", 0, t.x.has(8));
        for (int k = 0; k < 45; k++) {
            t.x.light(0, 1);
            t.due("hours(1)", 1, t.x.hours(1));
        }
        t.due("has(8)", 40, t.x.has(8));
        t.due("kept(0, 0)", 5, t.x.kept(0, 0));
        t.due("kept(39, 0)", 44, t.x.kept(39, 0));
        t.due("kept(40, 0)", -1, t.x.kept(40, 0));
        t.x.undo();
        t.due("kept(39, 0) behind undo", 43, t.x.kept(39, 0));
        t.due("kept(0, 0) behind undo", 4, t.x.kept(0, 0));
    }

    private static void believed(Due t) {
        // One that hangs on one that is not believed is not, though its own test holds.
        t.street("street 3;person p at 0 trust 4;lie a of p;lie b of p;lie c of p;hangs b on a;hangs c on b;believes inches>3 and trust=4;", 8);
        t.x.light(1, 9);
        t.x.light(2, 9);
        t.due("believed without a", 0, t.x.has(7));
        t.x.light(0, 3);
        t.due("believed with a short a", 0, t.x.has(7));
        t.x.snuff(0);
        t.x.light(0, 4);
        t.due("believed with a", 3, t.x.has(7));
        t.x.snuff(1);
        t.due("believed without b", 1, t.x.has(7));
        t.due("near", 2, t.x.lie(1, 6));
        t.due("lit of p", 2, t.x.person(0, 2));
    }
}
