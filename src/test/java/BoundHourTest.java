/** Terms II: the bounds of HOURS, tallow, candles, KEPT, ACTS and DRAWS; a method for each sentence that names some. */
final class BoundHourTest {
    private static final String TWO = "street 9;person p at 1 trust 1;person q at 7 trust 1;lie l of p;lie m of q;";
    private static final String EIGHT = "street 9;person p at 1 trust 1;lie a of p;lie b of p;lie c of p;lie d of p;lie e of p;lie f of p;"
            + "lie g of p;lie h of p;tallow 999;burns 1;";

    public static void main(String[] args) {
        Due t = new Due();
        hourZero(t);
        draughty(t);
        draughtyInBurns(t);
        litTakes(t);
        litForNoHour(t);
        believed(t);
        chain(t);
        planTallow(t);
        planOrder(t);
        planRows(t);
        planHour(t);
        lastPlanHour(t);
        shorter(t);
        lastInch(t);
        toldMost(t);
        atOnce(t);
        lastHour(t);
        belowGust(t);
        gustWindow(t);
        gustAll(t);
        gustLost(t);
        gustFirst(t);
        oneDrawWithoutGust(t);
        keptNotSnuffed(t);
        keptOrder(t);
        keptForty(t);
        keptUndone(t);
        snuffedTallow(t);
        twenty(t);
        eachIsOneAct(t);
        draws(t);
        t.close();
    }

    private static void hourZero(Due t) {
        t.sentence("II. It is HOUR 0 at first, no LIE is lit");
        t.street(TWO + "light l at 0 for 9;", 6);
        t.due("has(4)", 0, t.x.has(4));
        t.due("has(6)", 0, t.x.has(6));
        t.due("lie(0, 1)", 0, t.x.lie(0, 1));
        t.due("lie(0, 2)", 0, t.x.lie(0, 2));
        t.x.hours(3);
        t.x.light(1, 9);
        t.street(TWO, 5);
        t.due("has(4)", 0, t.x.has(4));
        t.due("has(6)", 0, t.x.has(6));
        t.due("lie(0, 2)", 0, t.x.lie(0, 2));
        t.due("lie(1, 1)", 0, t.x.lie(1, 1));
    }

    private static void draughty(Due t) {
        t.sentence("II. How DRAUGHTY it is .. 0 .. 9 (below is 0, above 9)");
        t.street("street 13;drafts place-1;", 2);
        int[] want = {0, 0, 1, 2, 3, 4, 5, 6, 7, 8, 9, 9, 9};
        for (int w = 0; w < want.length; w++) {
            t.due("draft(" + w + ", 0)", want[w], t.x.draft(w, 0));
        }
        t.street("street 2;drafts 1000*1000;", 2);
        t.due("draft(0, 0)", 9, t.x.draft(0, 0));
        t.street("street 2;drafts 0-1000*1000;", 2);
        t.due("draft(0, 0)", 0, t.x.draft(0, 0));
    }

    private static void draughtyInBurns(Due t) {
        t.sentence("II. How DRAUGHTY it is .. 0 .. 9 (where burns and believes ask it, too)");
        t.street(TWO + "drafts 10*(place-4);burns 1+draft;believes draft=9 or draft=0;", 8);
        t.x.light(0, 20);
        t.x.light(1, 20);
        t.due("has(7)", 2, t.x.has(7));
        t.due("later(0, 1)", 19, t.x.later(0, 1));
        t.due("later(1, 1)", 10, t.x.later(1, 1));
        t.ask("most draft", 9);
        t.ask("least draft", 0);
    }

    private static void litTakes(Due t) {
        t.sentence("II. To be LIT it takes as many inches of the tallow as its candle gets");
        t.street(TWO + "light m at 0 for 60;light l at 1 for 39;burns 0;", 8);
        t.x.light(0, 1);
        t.due("has(5)", 99, t.x.has(5));
        t.x.hours(1);
        t.due("has(5)", 39, t.x.has(5));
        t.x.hours(1);
        t.due("has(5), the row's LIE being lit", 39, t.x.has(5));
        t.x.undo();
        t.x.snuff(0);
        t.due("has(5)", 40, t.x.has(5));
        t.x.hours(1);
        t.due("has(5)", 1, t.x.has(5));
    }

    private static void litForNoHour(Due t) {
        t.sentence("II. it has been lit for 0 HOURS then");
        t.street(TWO + "light m at 3 for 9;burns 1;", 7);
        t.x.light(0, 2);
        t.due("lie(0, 2)", 0, t.x.lie(0, 2));
        t.x.hours(1);
        t.due("lie(0, 2)", 1, t.x.lie(0, 2));
        t.x.hours(1);
        t.due("lie(0, 2), OUT", 0, t.x.lie(0, 2));
        t.x.light(0, 9);
        t.due("lie(0, 2), lit anew", 0, t.x.lie(0, 2));
        t.x.hours(2);
        t.due("lie(0, 2)", 2, t.x.lie(0, 2));
        t.due("lie(1, 2), lit by the PLAN in this HOUR", 1, t.x.lie(1, 2));
        t.x.snuff(0);
        t.x.light(0, 9);
        t.due("lie(0, 2), snuffed and lit anew", 0, t.x.lie(0, 2));
    }

    private static void believed(Due t) {
        t.sentence("II. A LIE is BELIEVED, if it is lit, the TEST holds, and the one on which it hangs is BELIEVED, too");
        for (int first = 0; first < 3; first++) {
            for (int second = 0; second < 3; second++) {
                t.anew();
                t.street(TWO + "hangs m on l;believes inches>3;", 7);
                light(t, 0, first);
                light(t, 1, second);
                t.due("lie(0, 3) of " + first, first == 2, t.x.lie(0, 3) == 1);
                t.due("lie(1, 3) of " + first + " " + second, first == 2 && second == 2, t.x.lie(1, 3) == 1);
                t.due("held(1, 0)", first == 2 && second == 2, t.x.held(1, 0) == 1);
                t.due("has(7)", first < 2 ? 0 : second < 2 ? 1 : 2, t.x.has(7));
                t.ask("total held", first < 2 ? 0 : second < 2 ? 1 : 2);
            }
        }
    }

    /** Not at all, too short to be BELIEVED, or long enough by one inch. */
    private static void light(Due t, int lie, int how) {
        if (how > 0) {
            t.x.light(lie, 2 + how);
        }
    }

    private static void chain(Due t) {
        t.sentence("II. BELIEVED .. and the one on which it hangs (a chain of all 8)");
        t.street(EIGHT + "hangs b on a;hangs c on b;hangs d on c;hangs e on d;hangs f on e;hangs g on f;hangs h on g;", 19);
        for (int l = 7; l >= 0; l--) {
            t.due("has(7)", 0, t.x.has(7));
            t.x.light(l, 9);
        }
        t.due("has(7)", 8, t.x.has(7));
        for (int l = 0; l < 8; l++) {
            t.x.snuff(l);
            t.due("has(7) without " + l, l, t.x.has(7));
            t.x.light(l, 9);
        }
    }

    private static void planTallow(Due t) {
        t.sentence("II. if that LIE is not lit, and there is tallow enough, it is LIT");
        t.street(TWO + "tallow 20;light l at 0 for 20;burns 0;", 8);
        t.x.hours(1);
        t.due("lie(0, 1), exactly enough", 20, t.x.lie(0, 1));
        t.due("has(5)", 0, t.x.has(5));
        t.street(TWO + "tallow 20;light l at 0 for 21;burns 0;", 8);
        t.x.hours(1);
        t.due("lie(0, 1), one too few", 0, t.x.lie(0, 1));
        t.due("has(5)", 20, t.x.has(5));
        t.street(TWO + "tallow 0;light l at 0 for 1;burns 0;", 8);
        t.x.hours(1);
        t.due("lie(0, 1), none", 0, t.x.lie(0, 1));
        t.street(TWO + "light l at 0 for 9;burns 0;", 7);
        t.x.light(0, 3);
        t.x.hours(1);
        t.due("lie(0, 1), lit", 3, t.x.lie(0, 1));
        t.due("lie(0, 2), lit", 1, t.x.lie(0, 2));
        t.due("has(5)", 97, t.x.has(5));
    }

    private static void planOrder(Due t) {
        t.sentence("II. An HOUR: FIRST row by row of the PLAN whose HOUR it is");
        t.street(TWO + "lie n of p;tallow 9;light m at 0 for 5;light l at 0 for 5;light n at 0 for 4;light m at 0 for 1;burns 0;", 12);
        t.x.hours(1);
        t.due("lie(1, 1), the first row", 5, t.x.lie(1, 1));
        t.due("lie(0, 1), too few for the second", 0, t.x.lie(0, 1));
        t.due("lie(2, 1), enough for the third", 4, t.x.lie(2, 1));
        t.due("has(5)", 0, t.x.has(5));
        t.sentence("II. FIRST the PLAN, THEN all that are lit at once");
        t.street(TWO + "light m at 0 for 9;burns 1+near;", 7);
        t.x.move(1, 2);
        t.x.light(0, 9);
        t.x.hours(1);
        t.due("lie(0, 1), the one lit in this HOUR being near", 7, t.x.lie(0, 1));
        t.due("lie(1, 1), burning in the HOUR in which it is lit", 7, t.x.lie(1, 1));
    }

    private static void planRows(Due t) {
        t.sentence("II. row by row of the PLAN (all 16)");
        String rows = "";
        for (int k = 0; k < 15; k++) {
            rows += "light " + (char) ('a' + k % 7) + " at 1 for " + (k < 7 ? 90 : 1) + ";";
        }
        t.street(EIGHT + rows + "light h at 1 for 36;tallow 666;", 29);
        t.due("has(3)", 16, t.x.has(3));
        t.x.hours(1);
        t.due("has(6)", 0, t.x.has(6));
        t.x.hours(1);
        t.due("has(6)", 8, t.x.has(6));
        t.due("has(5)", 0, t.x.has(5));
        t.due("lie(6, 1)", 89, t.x.lie(6, 1));
        t.due("lie(7, 1), by the last row", 35, t.x.lie(7, 1));
    }

    private static void planHour(Due t) {
        t.sentence("II. the PLAN whose HOUR it is");
        t.street(TWO + "light l at 0 for 2;light m at 3 for 2;burns 0;", 8);
        t.due("later(0, 0)", 0, t.x.later(0, 0));
        t.due("later(0, 1)", 2, t.x.later(0, 1));
        t.due("later(1, 3)", 0, t.x.later(1, 3));
        t.due("later(1, 4)", 2, t.x.later(1, 4));
        t.x.hours(3);
        t.due("lie(1, 1)", 0, t.x.lie(1, 1));
        t.x.hours(1);
        t.due("lie(1, 1)", 2, t.x.lie(1, 1));
        t.x.snuff(1);
        t.x.hours(9);
        t.due("lie(1, 1), the HOUR being over", 0, t.x.lie(1, 1));
    }

    private static void toHour(Due t, int hour) {
        while (t.x.has(4) < hour) {
            t.x.hours(Math.min(100, hour - t.x.has(4)));
        }
    }

    private static void lastPlanHour(Due t) {
        t.sentence("II. the PLAN whose HOUR it is (no HOUR comes at HOUR 999)");
        t.street(TWO + "light l at 998 for 2;light m at 999 for 2;burns 0;", 8);
        toHour(t, 998);
        t.due("lie(0, 1)", 0, t.x.lie(0, 1));
        t.due("hours(1)", 0, t.x.hours(1));
        t.due("lie(0, 1)", 2, t.x.lie(0, 1));
        t.due("lie(1, 1)", 0, t.x.lie(1, 1));
        t.due("hours(1)", -1, t.x.hours(1));
        t.due("lie(1, 1)", 0, t.x.lie(1, 1));
    }

    private static void shorter(Due t) {
        t.sentence("II. the candle is shorter by the SUM of burns, 0 .. its length (below is 0, above that)");
        String[] burns = {"0-1000*1000", "0-1", "0", "1", "inches-1", "inches", "inches+1", "1000*1000"};
        int[] left = {9, 9, 9, 8, 1, 0, 0, 0};
        for (int k = 0; k < burns.length; k++) {
            t.street(TWO + "burns " + burns[k] + ";", 6);
            t.x.light(0, 9);
            t.due("hours(1) of " + burns[k], left[k] == 0 ? 1 : 0, t.x.hours(1));
            t.due("lie(0, 1) of " + burns[k], left[k], t.x.lie(0, 1));
            t.due("has(5) of " + burns[k], 91, t.x.has(5));
        }
    }

    private static void lastInch(Due t) {
        t.sentence("II. one that has no inch left is OUT: it is not lit");
        t.street("street 9;person p at 1 trust 1;lie l of p;lie m of p;burns 1;", 5);
        t.x.light(0, 2);
        t.x.light(1, 3);
        t.due("hours(1)", 0, t.x.hours(1));
        t.due("lie(0, 1)", 1, t.x.lie(0, 1));
        t.due("lie(0, 3), with one inch yet", 1, t.x.lie(0, 3));
        t.due("lie(1, 6)", 1, t.x.lie(1, 6));
        t.due("person(0, 2)", 2, t.x.person(0, 2));
        t.due("has(6)", 2, t.x.has(6));
        t.due("keystone(1, 0), without which the other is out", 1, t.x.keystone(1, 0));
        t.due("inches(0, -1)", 99, t.x.inches(0, -1));
        t.due("light(0, 1), lit", false, t.x.light(0, 1));
        t.ask("total lit", 2);
        t.ask("most glow 1", 2);
        t.due("hours(1)", 1, t.x.hours(1));
        t.due("lie(0, 1)", 0, t.x.lie(0, 1));
        t.due("lie(0, 2)", 0, t.x.lie(0, 2));
        t.due("lie(0, 3)", 0, t.x.lie(0, 3));
        t.due("lie(1, 6)", 0, t.x.lie(1, 6));
        t.due("has(6)", 1, t.x.has(6));
        t.due("snuff(0)", -1, t.x.snuff(0));
        t.due("light(0, 1)", true, t.x.light(0, 1));
    }

    private static void toldMost(Due t) {
        t.sentence("II. has been lit for one HOUR more (99 at most)");
        t.street(TWO + "burns told/99;", 6);
        t.x.light(0, 3);
        t.x.hours(98);
        t.due("lie(0, 2)", 98, t.x.lie(0, 2));
        t.x.hours(1);
        t.due("lie(0, 2)", 99, t.x.lie(0, 2));
        t.due("lie(0, 1)", 3, t.x.lie(0, 1));
        t.x.hours(1);
        t.due("lie(0, 2)", 99, t.x.lie(0, 2));
        t.due("lie(0, 1)", 2, t.x.lie(0, 1));
        t.x.hours(1);
        t.due("lie(0, 2)", 99, t.x.lie(0, 2));
        t.ask("most told", 99);
        t.due("hours(1)", 1, t.x.hours(1));
        t.due("lie(0, 2)", 0, t.x.lie(0, 2));
    }

    private static void atOnce(Due t) {
        t.sentence("II. THEN all that are lit at once");
        t.street("street 9;person p at 1 trust 1;lie l of p;lie m of p;burns near;", 5);
        t.x.light(0, 1);
        t.x.light(1, 1);
        t.due("hours(1)", 2, t.x.hours(1));
        t.street("street 9;person p at 1 trust 1;lie l of p;lie m of p;lie n of p;burns near*near;", 6);
        t.x.light(0, 4);
        t.x.light(1, 5);
        t.x.light(2, 8);
        t.due("hours(1)", 1, t.x.hours(1));
        t.due("lie(1, 1)", 1, t.x.lie(1, 1));
        t.due("lie(2, 1)", 4, t.x.lie(2, 1));
    }

    private static void lastHour(Due t) {
        t.sentence("II. The HOUR is one more (999 at most)");
        t.street(TWO, 5);
        t.due("hours(1)", 0, t.x.hours(1));
        t.due("has(4)", 1, t.x.has(4));
        toHour(t, 998);
        t.due("hours(2)", -1, t.x.hours(2));
        t.due("chance(2)", -1, t.x.chance(2));
        t.due("chance(1)", 0, t.x.chance(1));
        t.due("has(4)", 999, t.x.has(4));
        t.due("hours(1)", -1, t.x.hours(1));
        t.due("chance(1)", -1, t.x.chance(1));
        t.due("has(4)", 999, t.x.has(4));
        t.due("status(3)", 4, t.x.status(3));
        t.ask("most hour", 999);
    }

    private static void belowGust(Due t) {
        for (int number : new int[] {0, 1, 49, 98, 99}) {
            t.sentence("II. BY THE SEED an HOUR begins with a DRAW of 100: below gust (the DRAW being " + number + ")");
            int seed = Seeds.of(number, 9, 1);
            t.due("a seed is found", true, seed >= 0);
            for (int gust : new int[] {0, 1, 49, 50, 99, 100, number, number + 1}) {
                t.street(TWO + "burns 0;gust " + gust + ";", 7);
                t.x.seed(seed);
                t.x.light(0, 5);
                t.due("chance(1) of gust " + gust, number < gust ? 1 : 0, t.x.chance(1));
                t.due("lie(0, 1) of gust " + gust, number < gust ? 0 : 5, t.x.lie(0, 1));
            }
        }
    }

    private static void gustWindow(Due t) {
        t.sentence("II. all that are lit in that WINDOW are OUT");
        for (int window : new int[] {0, 1, 2, 3}) {
            t.street("street 4;person p at 0 trust 1;person q at 1 trust 1;person r at 2 trust 1;person s at 3 trust 1;lie a of p;lie b of q;"
                    + "lie c of r;lie d of s;lie e of q;lie f of q;lie g of s;burns 0;gust 100;", 14);
            for (int l = 0; l < 5; l++) {
                t.x.light(l, 5);
            }
            t.x.seed(Seeds.of(50, 4, window));
            t.due("chance(1)", 1, t.x.chance(1));
            int[] homes = {0, 1, 2, 3, 1};
            for (int l = 0; l < 5; l++) {
                t.due("lie(" + l + ", 1) behind a gust at " + window, homes[l] == window ? 0 : 5, t.x.lie(l, 1));
            }
            t.due("has(8), none of those not lit", window == 1 ? 2 : 1, t.x.has(8));
        }
    }

    private static void gustLost(Due t) {
        t.sentence("II. (what is left of their candles is lost)");
        t.street(TWO + "gust 100;", 6);
        t.x.light(0, 60);
        t.x.seed(Seeds.of(0, 9, 1));
        t.x.chance(1);
        t.due("lie(0, 1)", 0, t.x.lie(0, 1));
        t.due("lie(0, 2)", 0, t.x.lie(0, 2));
        t.due("has(5)", 40, t.x.has(5));
        t.due("a gust where nobody is is one", 1, blow(t, 5));
        t.due("has(8)", 1, t.x.has(8));
    }

    private static void gustAll(Due t) {
        t.sentence("II. all that are lit in that WINDOW are OUT (all 8)");
        t.street(EIGHT + "gust 100;", 13);
        for (int l = 0; l < 8; l++) {
            t.x.light(l, 9);
        }
        t.due("person(0, 2)", 8, t.x.person(0, 2));
        t.due("odds(7)", 800, t.x.odds(7));
        t.due("chance(1)", 1, blow(t, 1));
        t.due("person(0, 2)", 0, t.x.person(0, 2));
        t.due("has(6)", 0, t.x.has(6));
        t.due("has(8)", 8, t.x.has(8));
        t.due("kept(0, 1)", 0, t.x.kept(0, 1));
        t.due("kept(7, 1)", 7, t.x.kept(7, 1));
    }

    private static int blow(Due t, int window) {
        t.x.seed(Seeds.of(0, 9, window));
        return t.x.chance(1);
    }

    private static void gustFirst(Due t) {
        t.sentence("II. BY THE SEED an HOUR begins with a DRAW (ahead of the PLAN and of what burns)");
        t.street("street 9;person p at 1 trust 1;person q at 2 trust 1;lie l of p;lie m of q;light l at 0 for 7;burns 1+near;gust 100;", 8);
        t.x.light(0, 50);
        t.x.light(1, 9);
        t.due("chance(1)", 1, blow(t, 1));
        t.due("lie(0, 1), lit by the PLAN behind the gust", 5, t.x.lie(0, 1));
        t.due("lie(0, 2)", 1, t.x.lie(0, 2));
        t.due("lie(1, 1)", 7, t.x.lie(1, 1));
        t.due("has(8)", 1, t.x.has(8));
        t.due("chance(1)", 1, blow(t, 1));
        t.due("lie(1, 1), none being near behind the gust", 6, t.x.lie(1, 1));
    }

    private static void oneDrawWithoutGust(Due t) {
        t.sentence("II. an HOUR begins with a DRAW of 100 (with gust 0, too; one of the windows below gust alone)");
        Seeds s = new Seeds(77);
        t.x.seed(77);
        t.street("street 7;", 1);
        t.due("chance(3)", 0, t.x.chance(3));
        s.draw(100);
        s.draw(100);
        s.draw(100);
        t.street("street 7;gust 50;", 2);
        for (int k = 0; k < 40; k++) {
            int gusts = s.draw(100) < 50 ? 1 : 0;
            if (gusts == 1) {
                s.draw(7);
            }
            t.due("chance(1)", gusts, t.x.chance(1));
        }
    }

    private static void keptNotSnuffed(Due t) {
        t.sentence("II. KEPT is each that is OUT: HOUR, LIE (not those snuffed)");
        t.street(TWO + "gust 100;burns 1;", 7);
        t.x.light(0, 5);
        t.x.snuff(0);
        t.due("has(8)", 0, t.x.has(8));
        t.due("kept(0, 0)", -1, t.x.kept(0, 0));
        t.x.light(0, 3);
        t.x.hours(2);
        t.due("has(8)", 0, t.x.has(8));
        t.x.hours(1);
        t.due("has(8)", 1, t.x.has(8));
        t.due("kept(0, 0), the HOUR in which", 2, t.x.kept(0, 0));
        t.due("kept(0, 1)", 0, t.x.kept(0, 1));
        t.x.light(1, 9);
        blow(t, 7);
        t.due("kept(1, 0)", 3, t.x.kept(1, 0));
        t.due("kept(1, 1)", 1, t.x.kept(1, 1));
        t.due("kept(2, 1)", -1, t.x.kept(2, 1));
    }

    private static void keptOrder(Due t) {
        t.sentence("II. KEPT .. step by step as they come (those of a gust first, then those burnt down; of one step LIE by LIE)");
        t.street("street 9;person p at 1 trust 1;person q at 7 trust 1;lie a of p;lie b of q;lie c of p;lie d of q;lie e of p;burns 9;gust 100;", 10);
        for (int l = 4; l >= 0; l--) {
            t.x.light(l, 9);
        }
        t.due("chance(1)", 1, blow(t, 7));
        int[] order = {1, 3, 0, 2, 4};
        t.due("has(8)", 5, t.x.has(8));
        for (int k = 0; k < order.length; k++) {
            t.due("kept(" + k + ", 0)", 0, t.x.kept(k, 0));
            t.due("kept(" + k + ", 1)", order[k], t.x.kept(k, 1));
        }
    }

    /** All 8 LIES end in each HOUR. */
    private static void burnAll(Due t, int hours) {
        for (int h = 0; h < hours; h++) {
            for (int l = 0; l < 8; l++) {
                t.x.light(l, 1);
            }
            t.due("hours(1)", 8, t.x.hours(1));
        }
    }

    private static void dueKept(Due t, int all) {
        int told = Math.min(40, all);
        t.due("has(8) of " + all, told, t.x.has(8));
        for (int k : new int[] {0, 1, told - 1}) {
            int number = all - told + k;
            t.due("kept(" + k + ", 0) of " + all, number / 8, t.x.kept(k, 0));
            t.due("kept(" + k + ", 1) of " + all, number % 8, t.x.kept(k, 1));
        }
        t.due("kept(" + told + ", 0)", -1, t.x.kept(told, 0));
        t.due("kept(" + told + ", 1)", -1, t.x.kept(told, 1));
    }

    private static void keptForty(Due t) {
        t.sentence("II. KEPT .. the last 40 are told");
        t.street(EIGHT, 12);
        burnAll(t, 4);
        dueKept(t, 32);
        burnAll(t, 1);
        dueKept(t, 40);
        t.x.light(0, 1);
        t.x.hours(1);
        dueKept(t, 41);
        t.x.undo();
        dueKept(t, 40);
        burnAll(t, 1);
        dueKept(t, 48);
        burnAll(t, 6);
        dueKept(t, 96);
    }

    private static void keptUndone(Due t) {
        t.sentence("31. The latest ACT is undone (what was KEPT ahead of it is told again)");
        t.street(EIGHT, 12);
        for (int k = 0; k < 39; k++) {
            t.x.light(k % 2, 1);
            t.x.hours(1);
        }
        t.x.light(5, 1);
        t.x.light(6, 1);
        t.x.light(7, 1);
        t.x.hours(1);
        t.due("has(8)", 40, t.x.has(8));
        t.due("kept(0, 0)", 2, t.x.kept(0, 0));
        t.due("kept(37, 1)", 5, t.x.kept(37, 1));
        t.due("kept(39, 1)", 7, t.x.kept(39, 1));
        t.x.undo();
        t.due("has(8)", 39, t.x.has(8));
        for (int k = 0; k < 39; k++) {
            t.due("kept(" + k + ", 0)", k, t.x.kept(k, 0));
            t.due("kept(" + k + ", 1)", k % 2, t.x.kept(k, 1));
        }
        t.due("kept(39, 1)", -1, t.x.kept(39, 1));
    }

    private static void snuffedTallow(Due t) {
        t.sentence("II. one is snuffed: it is not lit, what is left of its candle comes to the tallow (999 at most)");
        for (int more : new int[] {0, 1, 9}) {
            t.street(TWO + "tallow 999;burns 1;", 7);
            t.x.light(0, 20);
            t.x.light(1, 5);
            t.x.hours(1);
            t.x.buy(5 + more);
            t.due("snuff(0)", 19, t.x.snuff(0));
            t.due("has(5)", Math.min(999, 998 + more), t.x.has(5));
            t.due("lie(0, 1)", 0, t.x.lie(0, 1));
            t.due("lie(0, 2)", 0, t.x.lie(0, 2));
            t.due("snuff(1)", 4, t.x.snuff(1));
            t.due("has(5)", 999, t.x.has(5));
        }
    }

    private static void twenty(Due t) {
        t.sentence("II. ACTS .. The last 20 can be undone");
        for (int acts : new int[] {19, 20, 21, 47}) {
            t.anew();
            t.street(TWO, 5);
            for (int k = 0; k < acts; k++) {
                t.x.buy(1);
            }
            int undone = Math.min(20, acts);
            for (int k = undone; k > 0; k--) {
                t.due("has(10) of " + acts, k, t.x.has(10));
                t.due("undo() of " + acts, true, t.x.undo());
            }
            t.due("has(10)", 0, t.x.has(10));
            t.due("undo()", false, t.x.undo());
            t.due("has(5)", 100 + acts - undone, t.x.has(5));
        }
    }

    private static void eachIsOneAct(Due t) {
        t.sentence("II. ACTS: a LIE is LIT; one is snuffed; a PERSON moves; tallow is bought; HOURS; HOURS by the seed");
        t.street(TWO + "gust 50;", 6);
        int acts = 0;
        t.due("has(10)", acts++, t.x.has(10));
        t.x.light(0, 9);
        t.due("has(10)", acts++, t.x.has(10));
        t.x.snuff(0);
        t.due("has(10)", acts++, t.x.has(10));
        t.x.move(0, 2);
        t.due("has(10)", acts++, t.x.has(10));
        t.x.buy(999);
        t.due("has(10)", acts++, t.x.has(10));
        t.x.hours(100);
        t.due("has(10)", acts++, t.x.has(10));
        t.x.chance(100);
        t.due("has(10)", acts++, t.x.has(10));
        // What is refused, tells or asks is none.
        t.x.light(0, 0);
        t.x.snuff(0);
        t.x.move(0, 2);
        t.x.buy(1);
        t.x.hours(101);
        t.x.chance(0);
        t.x.seed(5);
        t.x.image();
        t.x.later(0, 5);
        t.ask("total hour", 400);
        t.tape(0, 0, 0);
        t.x.see();
        t.due("has(10)", 6, t.x.has(10));
        t.due("undo()", true, t.x.undo());
        t.due("has(4)", 100, t.x.has(4));
    }

    private static void draws(Due t) {
        for (int seed : new int[] {0, 1, 2, 63, 64, 65535, 1073741824, 2147483646, 2147483647}) {
            t.sentence("II. A DRAW of m: x becomes (1103515245 x + 12345) mod 2 to the 31; floor(x / 64) mod m (seed " + seed + ")");
            t.street("street 29;person p at 1 trust 1;lie a of p;burns 0;gust 37;", 5);
            t.x.light(0, 1);
            t.due("seed", true, t.x.seed(seed));
            Seeds s = new Seeds(seed);
            boolean out = false;
            for (int round = 0; round < 9; round++) {
                int gusts = 0;
                for (int k = 0; k < 100; k++) {
                    if (s.draw(100) < 37) {
                        gusts++;
                        out = s.draw(29) == 1 || out;
                    }
                }
                t.due("chance(100)", gusts, t.x.chance(100));
                t.due("has(8)", out ? 1 : 0, t.x.has(8));
            }
        }
    }
}
