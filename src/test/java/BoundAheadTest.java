/** Terms III: the bounds of what is AHEAD, of SHORT candles, KEYSTONES, CHANGES, ODDS, of what is SEEN and of TELLING. */
final class BoundAheadTest {
    private static final String ONE = "street 9;person p at 1 trust 1;lie l of p;";
    private static final String TWO = "street 9;person p at 1 trust 1;person q at 7 trust 1;lie l of p;lie m of q;";
    private static final String EIGHT = "street 9;person p at 1 trust 1;lie a of p;lie b of p;lie c of p;lie d of p;lie e of p;lie f of p;"
            + "lie g of p;lie h of p;tallow 999;burns 1;";

    public static void main(String[] args) {
        Due t = new Due();
        sixty(t);
        untilSixty(t);
        notBeyondTheLast(t);
        untilTheLast(t);
        withoutDraws(t);
        nothingChanges(t);
        hangs(t);
        shortest(t);
        ninetyNine(t);
        whateverTallow(t);
        shortOfLit(t);
        setOfAll(t);
        setOfLit(t);
        setOfNone(t);
        searchedHours(t);
        keystoneFirst(t);
        keystoneLitAlone(t);
        keystoneCounts(t);
        changeNone(t);
        changeFirst(t);
        changeAlone(t);
        oddsRows(t);
        oddsNextHour(t);
        oddsLastHour(t);
        seenRows(t);
        seenAll(t);
        inchesAll(t);
        inchesEnds(t);
        inchesToldStays(t);
        tellingHours(t);
        tellingFirst(t);
        tellingWindows(t);
        tellingNone(t);
        tellingFull(t);
        t.close();
    }

    private static void toHour(Due t, int hour) {
        while (t.x.has(4) < hour) {
            t.x.hours(Math.min(100, hour - t.x.has(4)));
        }
    }

    private static void sixty(Due t) {
        t.sentence("III. AHEAD are HOURS as they come from now on (60 at most)");
        t.street(ONE + "light l at 59 for 2;light l at 60 for 2;burns 1;drafts hour;", 7);
        t.x.light(0, 60);
        int[] hours = {Integer.MIN_VALUE, -1, 0, 59, 60, 61, Integer.MAX_VALUE};
        int[] later = {-1, -1, 60, 1, 0, -1, -1};
        int[] held = {-1, -1, 1, 1, 0, -1, -1};
        int[] draft = {-1, -1, 0, 9, 9, -1, -1};
        for (int k = 0; k < hours.length; k++) {
            t.due("later(0, " + hours[k] + ")", later[k], t.x.later(0, hours[k]));
            t.due("held(0, " + hours[k] + ")", held[k], t.x.held(0, hours[k]));
            t.due("draft(0, " + hours[k] + ")", draft[k], t.x.draft(0, hours[k]));
        }
    }

    private static void untilSixty(Due t) {
        t.sentence("III. AHEAD (60 at most) of out(), trusted()");
        t.street(ONE + "burns 1;believes inches<30;", 5);
        t.x.light(0, 60);
        t.due("out(0) of 60 inches", 60, t.x.out(0));
        t.due("trusted(0, 0)", 31, t.x.trusted(0, 0));
        t.due("trusted(0, 1)", 60, t.x.trusted(0, 1));
        t.x.snuff(0);
        t.x.light(0, 61);
        t.due("out(0) of 61 inches", -1, t.x.out(0));
        t.due("trusted(0, 0)", 32, t.x.trusted(0, 0));
        t.due("trusted(0, 1)", -1, t.x.trusted(0, 1));
        t.x.snuff(0);
        t.x.light(0, 89);
        t.due("trusted(0, 0) of 89 inches", 60, t.x.trusted(0, 0));
        t.x.snuff(0);
        t.x.light(0, 90);
        t.due("trusted(0, 0) of 90 inches", -1, t.x.trusted(0, 0));
        t.x.snuff(0);
        t.x.light(0, 1);
        t.due("out(0) of 1 inch", 1, t.x.out(0));
        t.due("trusted(0, 0)", 0, t.x.trusted(0, 0));
        t.due("trusted(0, 1)", 1, t.x.trusted(0, 1));
    }

    private static void notBeyondTheLast(Due t) {
        t.sentence("III. AHEAD .. (not beyond HOUR 999)");
        t.street(ONE + "burns 0;", 4);
        t.x.light(0, 7);
        for (int hour : new int[] {938, 939, 940, 998, 999}) {
            toHour(t, hour);
            int most = Math.min(60, 999 - hour);
            t.due("later at " + hour, 7, t.x.later(0, most));
            t.due("held at " + hour, 1, t.x.held(0, most));
            t.due("draft at " + hour, 0, t.x.draft(0, most));
            t.due("later beyond at " + hour, -1, t.x.later(0, most + 1));
            t.due("held beyond at " + hour, -1, t.x.held(0, most + 1));
            t.due("draft beyond at " + hour, -1, t.x.draft(0, most + 1));
        }
    }

    private static void untilTheLast(Due t) {
        t.sentence("III. AHEAD .. (not beyond HOUR 999) of out(), trusted()");
        t.street(ONE + "burns 1;believes hour=999 or hour<998;light l at 999 for 9;", 6);
        toHour(t, 997);
        t.x.light(0, 2);
        t.due("out(0)", 2, t.x.out(0));
        t.due("trusted(0, 0)", 0, t.x.trusted(0, 0));
        t.due("trusted(0, 1)", 1, t.x.trusted(0, 1));
        t.x.snuff(0);
        t.x.light(0, 3);
        t.due("out(0)", -1, t.x.out(0));
        toHour(t, 998);
        t.due("trusted(0, 0)", 1, t.x.trusted(0, 0));
        t.due("trusted(0, 1)", -1, t.x.trusted(0, 1));
        toHour(t, 999);
        t.due("lie(0, 1)", 1, t.x.lie(0, 1));
        t.due("out(0)", -1, t.x.out(0));
        t.due("trusted(0, 0)", 0, t.x.trusted(0, 0));
        t.due("trusted(0, 1)", -1, t.x.trusted(0, 1));
    }

    private static void withoutDraws(Due t) {
        t.sentence("III. AHEAD are HOURS .. without DRAWS");
        t.street(ONE + "gust 100;burns 1;", 5);
        t.x.light(0, 50);
        int seed = Seeds.of(0, 9, 1);
        t.x.seed(seed);
        t.due("later(0, 9)", 41, t.x.later(0, 9));
        t.due("held(0, 9)", 1, t.x.held(0, 9));
        t.due("out(0)", 50, t.x.out(0));
        t.due("shorts reach", 1, t.x.together(1, 40));
        t.due("keystone(1, 1)", 0, t.x.keystone(1, 1));
        t.due("change(40, 2)", 1, t.x.change(40, 2));
        t.due("odds(0)", 800, t.x.odds(0));
        t.due("inches(0, -1)", 99, t.x.inches(0, -1));
        // None of these has drawn: the next HOUR's gust comes as the seed says.
        t.due("chance(1)", 1, t.x.chance(1));
        t.due("lie(0, 1)", 0, t.x.lie(0, 1));
    }

    private static void nothingChanges(Due t) {
        t.sentence("III. AHEAD (what is tried changes nothing of what is now)");
        t.street(TWO + "light l at 0 for 5;light l at 1 for 7;burns 1+near;gust 50;", 9);
        t.x.light(1, 9);
        for (int k = 0; k < 2; k++) {
            t.due("later(1, 3)", 6, t.x.later(1, 3));
            t.due("out(1)", 9, t.x.out(1));
            t.due("trusted(1, 1)", 9, t.x.trusted(1, 1));
            t.due("shorts(0, 5), lit anew by the PLAN", 1, t.x.shorts(0, 5));
            t.due("together(3, 1)", 2, t.x.together(3, 1));
            t.due("keystone(3, 0)", 1, t.x.keystone(3, 0));
            t.due("change(3, 2)", 2, t.x.change(3, 2));
            t.due("odds(1)", 850, t.x.odds(1));
            t.due("inches(1, -1)", 99, t.x.inches(1, -1));
            t.due("tells(1, 0)", 30, t.x.tells(1, 0));
            t.due("has(4)", 0, t.x.has(4));
            t.due("has(5)", 91, t.x.has(5));
            t.due("has(6)", 1, t.x.has(6));
            t.due("has(8)", 0, t.x.has(8));
            t.due("has(10)", 1, t.x.has(10));
            t.due("lie(1, 1)", 9, t.x.lie(1, 1));
            t.due("lie(1, 2)", 0, t.x.lie(1, 2));
            t.due("person(0, 0)", 1, t.x.person(0, 0));
            t.due("person(1, 0)", 7, t.x.person(1, 0));
        }
    }

    private static void hangs(Due t) {
        t.sentence("III. All that HANGS on a LIE are those that hang on it, on these, and so on");
        t.street(EIGHT, 12);
        for (int l = 0; l < 8; l++) {
            t.due("lie(" + l + ", 5), none", 0, t.x.lie(l, 5));
        }
        t.street(EIGHT + "hangs h on g;hangs g on f;hangs f on e;hangs e on d;hangs d on c;hangs c on b;hangs b on a;", 19);
        for (int l = 0; l < 8; l++) {
            t.due("lie(" + l + ", 5), all behind it", 255 & -2 << l, t.x.lie(l, 5));
        }
        t.street(EIGHT + "hangs c on a;hangs d on b;hangs e on c;hangs h on b;", 16);
        int[] want = {4 + 16, 8 + 128, 16, 0, 0, 0, 0, 0};
        for (int l = 0; l < 8; l++) {
            t.due("lie(" + l + ", 5)", want[l], t.x.lie(l, 5));
        }
    }

    private static void shortest(Due t) {
        t.sentence("III. A SHORT candle .. is the least of 1 .. 99 inches with which .. it is BELIEVED behind n HOURS");
        t.street(ONE + "burns 0;", 4);
        t.due("shorts(0, 1), the least", 1, t.x.shorts(0, 1));
        t.due("shorts(0, 40), the least", 1, t.x.shorts(0, 40));
        t.street(ONE + "burns 1;", 4);
        t.due("shorts(0, 1)", 2, t.x.shorts(0, 1));
        t.due("shorts(0, 40)", 41, t.x.shorts(0, 40));
        t.street(ONE + "burns 0;believes inches=1;", 5);
        t.due("shorts(0, 1)", 1, t.x.shorts(0, 1));
        t.street(ONE + "burns 0;believes inches=0;", 5);
        t.due("shorts(0, 1), none", -1, t.x.shorts(0, 1));
        t.street(ONE + "burns 1;believes inches=3 or inches=1 and told=1;", 5);
        t.due("shorts(0, 1)", 2, t.x.shorts(0, 1));
        t.due("shorts(0, 2)", 5, t.x.shorts(0, 2));
    }

    private static void ninetyNine(Due t) {
        t.sentence("17. NONE when 99 are not enough");
        t.street(ONE + "burns 14;", 4);
        t.due("shorts(0, 7), all 99", 99, t.x.shorts(0, 7));
        t.due("together(1, 7), all 99", 99, t.x.together(1, 7));
        t.due("shorts(0, 8)", -1, t.x.shorts(0, 8));
        t.due("together(1, 8)", -1, t.x.together(1, 8));
        t.street(ONE + "burns 0;believes inches>98;", 5);
        t.due("shorts(0, 40)", 99, t.x.shorts(0, 40));
        t.street(ONE + "burns 0;believes inches>99;", 5);
        t.due("shorts(0, 40)", -1, t.x.shorts(0, 40));
        t.due("together(1, 40)", -1, t.x.together(1, 40));
    }

    private static void whateverTallow(Due t) {
        t.sentence("III. lit now (whatever tallow there is, none being taken)");
        t.street(TWO + "tallow 0;burns 1;", 7);
        t.due("shorts(0, 9)", 10, t.x.shorts(0, 9));
        t.due("together(3, 9)", 10, t.x.together(3, 9));
        // The PLAN needs all the tallow for the LIE on which this one hangs: it is there yet.
        t.street(TWO + "tallow 9;light l at 1 for 9;hangs m on l;burns 1;", 9);
        t.due("shorts(1, 2)", 3, t.x.shorts(1, 2));
        t.due("shorts(1, 9)", 10, t.x.shorts(1, 9));
        t.due("shorts(1, 10)", -1, t.x.shorts(1, 10));
        t.due("has(5)", 9, t.x.has(5));
    }

    private static void shortOfLit(Due t) {
        t.sentence("17. NONE when it is lit, there is none such");
        t.street(TWO + "burns 1;", 6);
        t.x.light(0, 1);
        t.due("shorts(0, 1)", -1, t.x.shorts(0, 1));
        t.due("shorts(1, 1)", 2, t.x.shorts(1, 1));
        t.due("shorts(2, 1)", -1, t.x.shorts(2, 1));
        t.due("shorts(-1, 1)", -1, t.x.shorts(-1, 1));
        t.x.hours(1);
        t.due("shorts(0, 1), OUT", 2, t.x.shorts(0, 1));
    }

    private static void setOfAll(Due t) {
        t.sentence("III. a SHORT candle of a SET .. all of them that are not lit being lit now with so many each");
        t.street(EIGHT, 12);
        t.due("together(255, 1)", 2, t.x.together(255, 1));
        t.due("together(255, 40)", 41, t.x.together(255, 40));
        t.due("together(128, 5)", 6, t.x.together(128, 5));
        t.x.light(3, 5);
        t.due("together(255, 4)", 5, t.x.together(255, 4));
        t.due("together(255, 5), the lit one being out", -1, t.x.together(255, 5));
        t.due("together(247, 5), without it", 6, t.x.together(247, 5));
        t.street("street 9;person p at 1 trust 1;lie a of p;lie b of p;lie c of p;", 5);
        t.due("together(7, 33), each burning 3", -1, t.x.together(7, 33));
        t.due("together(7, 32)", 97, t.x.together(7, 32));
        t.due("together(3, 32), each burning 2", 65, t.x.together(3, 32));
    }

    private static void setOfLit(Due t) {
        t.sentence("III. all of the SET are BELIEVED behind n HOURS (all of them lit already)");
        t.street(TWO + "burns 1;", 6);
        t.x.light(0, 5);
        t.x.light(1, 7);
        t.due("together(3, 4)", 1, t.x.together(3, 4));
        t.due("together(3, 5)", -1, t.x.together(3, 5));
        t.due("together(2, 6)", 1, t.x.together(2, 6));
        t.due("together(2, 7)", -1, t.x.together(2, 7));
    }

    private static void setOfNone(Due t) {
        t.sentence("18. NONE when there is none such (0, a LIE that there is not)");
        t.street(TWO + "burns 1;", 6);
        for (int set : new int[] {0, 4, 5, 7, 8, 128, 256, 1 << 30, 1 << 31, (1 << 31) + 1, -1, Integer.MAX_VALUE}) {
            t.due("together(" + set + ", 1)", -1, t.x.together(set, 1));
        }
        t.due("together(1, 1)", 2, t.x.together(1, 1));
        t.due("together(3, 1)", 2, t.x.together(3, 1));
        t.street(EIGHT, 12);
        t.due("together(255, 1)", 2, t.x.together(255, 1));
        t.due("together(256, 1)", -1, t.x.together(256, 1));
        t.due("together(511, 1)", -1, t.x.together(511, 1));
        t.street("street 2;", 1);
        t.due("together(1, 1)", -1, t.x.together(1, 1));
    }

    private static void dueSearched(Due t, int n, boolean comes) {
        t.due("shorts(0, " + n + ")", comes ? 1 : -1, t.x.shorts(0, n));
        t.due("together(1, " + n + ")", comes ? 1 : -1, t.x.together(1, n));
        t.due("keystone(" + n + ", 0)", comes ? 1 : -1, t.x.keystone(n, 0));
        t.due("change(" + n + ", 2)", comes ? 1 : -1, t.x.change(n, 2));
    }

    private static void searchedHours(Due t) {
        t.sentence("17 to 20. n HOURS (1 .. 40) .. NONE when n can't be");
        t.street(TWO + "burns 0;", 6);
        t.x.light(1, 9);
        for (int n : new int[] {Integer.MIN_VALUE, -1, 0, 1, 39, 40, 41, 60, Integer.MAX_VALUE}) {
            dueSearched(t, n, n > 0 && n < 41);
        }
        for (int hour : new int[] {958, 959, 960, 998, 999}) {
            toHour(t, hour);
            int most = Math.min(40, 999 - hour);
            if (most > 0) {
                dueSearched(t, most, true);
            }
            dueSearched(t, most + 1, false);
        }
    }

    private static void keystoneFirst(Due t) {
        t.sentence("III. The KEYSTONE .. of like ones the first");
        t.street(EIGHT, 12);
        for (int l = 1; l < 8; l++) {
            t.x.light(l, 9);
        }
        t.due("keystone(1, 0)", 1, t.x.keystone(1, 0));
        t.due("keystone(1, 1)", 6, t.x.keystone(1, 1));
        t.due("keystone(9, 0), all being out by then", 1, t.x.keystone(9, 0));
        t.due("keystone(9, 1)", 0, t.x.keystone(9, 1));
        t.street(EIGHT + "hangs e on d;", 13);
        for (int l = 0; l < 8; l++) {
            t.x.light(l, 9);
        }
        t.due("keystone(1, 0)", 3, t.x.keystone(1, 0));
        t.due("keystone(1, 1)", 6, t.x.keystone(1, 1));
    }

    private static void keystoneLitAlone(Due t) {
        t.sentence("III. The KEYSTONE .. is the lit LIE");
        t.street("street 9;person p at 1 trust 1;lie a of p;lie b of p;lie c of p;burns 1;believes inches>50;light a at 0 for 60;", 8);
        t.due("keystone(1, 0), none lit", -1, t.x.keystone(1, 0));
        t.due("keystone(1, 1), none lit", -1, t.x.keystone(1, 1));
        t.x.light(1, 9);
        t.due("keystone(1, 0), though none hangs on it", 1, t.x.keystone(1, 0));
        t.due("keystone(1, 1), one lit by the PLAN", 1, t.x.keystone(1, 1));
        t.street(TWO + "burns 1;", 6);
        t.x.light(1, 1);
        t.due("keystone(1, 0), lit with one inch", 1, t.x.keystone(1, 0));
        t.due("keystone(1, 1)", 0, t.x.keystone(1, 1));
    }

    private static void keystoneCounts(Due t) {
        t.sentence("19. how many are BELIEVED then (all 8, lit anew by the PLAN)");
        String rows = "";
        for (char c = 'a'; c <= 'h'; c++) {
            rows += "light " + c + " at 0 for 9;";
        }
        t.street(EIGHT + rows, 20);
        for (int l = 0; l < 8; l++) {
            t.x.light(l, 9);
        }
        t.due("keystone(1, 0)", 0, t.x.keystone(1, 0));
        t.due("keystone(1, 1)", 8, t.x.keystone(1, 1));
        t.due("keystone(1, 2)", -1, t.x.keystone(1, 2));
        t.due("keystone(1, -1)", -1, t.x.keystone(1, -1));
    }

    private static void dueChange(Due t, int n, int less, int other, int count) {
        t.due("change(" + n + ", 0)", less, t.x.change(n, 0));
        t.due("change(" + n + ", 1)", other, t.x.change(n, 1));
        t.due("change(" + n + ", 2)", count, t.x.change(n, 2));
        t.due("change(" + n + ", 3)", -1, t.x.change(n, 3));
        t.due("change(" + n + ", -1)", -1, t.x.change(n, -1));
    }

    private static void changeNone(Due t) {
        t.sentence("III. A CHANGE .. two PEOPLE, or none; of like ones none");
        String head = "street 9;person p at 2 trust 1;person q at 7 trust 1;lie l of p;lie m of q;burns 1;";
        t.street(head, 6);
        t.x.light(0, 9);
        t.x.light(1, 9);
        dueChange(t, 1, -1, -1, 2);
        dueChange(t, 9, -1, -1, 0);
        t.street(head + "drafts place;believes draft=7;", 8);
        t.x.light(0, 9);
        t.x.light(1, 9);
        dueChange(t, 1, -1, -1, 1);
        t.x.snuff(1);
        dueChange(t, 1, 0, 1, 1);
        // None is told anew behind two that were told.
        dueChange(t, 9, -1, -1, 0);
    }

    private static void changeFirst(Due t) {
        t.sentence("III. A CHANGE .. then the first (by the less number, then by the other one)");
        String head = "street 9;person p at 0 trust 1;person q at 1 trust 1;person r at 2 trust 1;person s at 8 trust 1;person u at 8 trust 1;"
                + "lie a of p;lie b of q;lie c of r;drafts place;burns 0;";
        t.street(head + "believes draft=8;", 12);
        t.x.light(1, 9);
        t.x.light(2, 9);
        dueChange(t, 1, 1, 3, 1);
        t.x.light(0, 9);
        dueChange(t, 1, 0, 3, 1);
        t.x.move(3, 3);
        dueChange(t, 1, 0, 4, 1);
        // The last pair of all.
        t.street("street 9;person p at 0 trust 1;person q at 0 trust 1;person r at 0 trust 1;person s at 0 trust 1;person u at 1 trust 1;"
                + "person v at 8 trust 1;lie a of u;drafts place;burns 0;believes draft=8;", 11);
        t.x.light(0, 9);
        dueChange(t, 40, 4, 5, 1);
    }

    private static void changeAlone(Due t) {
        t.sentence("III. A CHANGE .. (nobody, or one alone)");
        t.street("street 9;", 1);
        dueChange(t, 1, -1, -1, 0);
        dueChange(t, 40, -1, -1, 0);
        t.street(ONE, 3);
        t.x.light(0, 9);
        dueChange(t, 1, -1, -1, 1);
        t.anew();
        dueChange(t, 1, -1, -1, -1);
    }

    private static void oddsRows(Due t) {
        t.sentence("III. ODDS .. by how many of all rows of a number below 100, a WINDOW");
        for (int windows : new int[] {2, 9, 30}) {
            for (int gust : new int[] {0, 1, 99, 100}) {
                t.street("street " + windows + ";person p at 1 trust 1;lie l of p;lie m of p;burns 1;gust " + gust + ";", 6);
                t.x.light(0, 9);
                t.due("odds(-1)", 100 * windows, t.x.odds(-1));
                t.due("odds(0) of gust " + gust, 100 * windows - gust, t.x.odds(0));
                t.due("odds(1), not lit", 0, t.x.odds(1));
                t.due("odds(2)", -1, t.x.odds(2));
                t.due("odds(-2)", -1, t.x.odds(-2));
            }
        }
    }

    private static void oddsNextHour(Due t) {
        t.sentence("III. BELIEVED behind the next HOUR by the seed");
        t.street("street 9;person p at 1 trust 1;person q at 2 trust 1;lie l of p;lie m of q;lie n of p;gust 10;"
                + "light n at 0 for 9;believes near<2;burns 1;", 10);
        t.x.light(0, 1);
        t.x.light(1, 2);
        t.due("odds(0), out by then", 0, t.x.odds(0));
        t.due("odds(1), lit by then", 890, t.x.odds(1));
        t.due("odds(2), lit by the PLAN behind the gust", 900, t.x.odds(2));
        t.street("street 9;person p at 1 trust 1;person q at 2 trust 1;lie l of p;lie m of q;lie n of q;gust 10;burns 1+near;", 8);
        t.x.light(0, 3);
        t.x.light(1, 9);
        t.x.light(2, 9);
        // Burning 3 an HOUR, it is lit behind the next one only where a gust puts out the other two.
        t.due("odds(0)", 10, t.x.odds(0));
    }

    private static void oddsLastHour(Due t) {
        t.sentence("21. NONE .. without a street, or at HOUR 999");
        t.due("odds(-1) without a street", -1, t.x.odds(-1));
        t.due("odds(0) without a street", -1, t.x.odds(0));
        t.street(ONE + "burns 0;", 4);
        t.x.light(0, 9);
        toHour(t, 998);
        t.due("odds(-1) at 998", 900, t.x.odds(-1));
        t.due("odds(0) at 998", 900, t.x.odds(0));
        toHour(t, 999);
        t.due("odds(-1) at 999", -1, t.x.odds(-1));
        t.due("odds(0) at 999", -1, t.x.odds(0));
    }

    private static void seen(Due t, int rows, int... bytes) {
        t.tape(bytes);
        t.due("see() of " + java.util.Arrays.toString(bytes), rows, t.x.see());
        t.due("the tape goes", false, t.x.end(1));
    }

    private static void seenRows(Due t) {
        t.sentence("III. SEEN are rows of HOURS AHEAD (0 .. 30), a WINDOW, how many LIES are lit in it (0 .. 8)");
        t.street(TWO, 5);
        seen(t, 1, 0, 0, 0);
        seen(t, 1, 30, 8, 8);
        int before = t.x.status(1);
        seen(t, -1, 31, 8, 8);
        seen(t, -1, 255, 8, 8);
        seen(t, -1, 30, 9, 8);
        seen(t, -1, 30, 255, 8);
        seen(t, -1, 30, 8, 9);
        seen(t, -1, 30, 8, 255);
        seen(t, -1, 0, 0, 0, 31, 0, 0);
        t.due("status(1)", before + 7, t.x.status(1));
        t.due("has(9)", 1, t.x.has(9));
        t.street("street 30;person p at 29 trust 1;lie l of p;", 3);
        seen(t, 1, 0, 29, 0);
        seen(t, -1, 0, 30, 0);
    }

    private static void seenAll(Due t) {
        t.sentence("22. 1 to 16 rows (each of them counts, and none of those seen ahead)");
        t.street(ONE + "burns 1;", 4);
        t.x.light(0, 50);
        for (int row = 0; row < 16; row++) {
            int[] bytes = new int[48];
            for (int k = 0; k < 16; k++) {
                bytes[3 * k + 1] = 1;
                bytes[3 * k + 2] = 1;
            }
            bytes[3 * row] = 30;
            bytes[3 * row + 2] = 0;
            seen(t, 16, bytes);
            dueInches(t, 0, 1, 30);
        }
        seen(t, 1, 0, 1, 1);
        dueInches(t, 0, 1, 99);
        toHour(t, 970);
        t.x.snuff(0);
        t.x.light(0, 50);
        dueInches(t, 0, 1, 99);
        seen(t, 2, 0, 1, 1, 30, 1, 0);
        dueInches(t, 0, 1, 0);
        seen(t, 1, 0, 1, 1);
        dueInches(t, 0, 1, 99);
        toHour(t, 999);
        dueInches(t, 0, 1, 99);
        seen(t, 1, 1, 1, 1);
        dueInches(t, 0, 1, 0);
    }

    private static void dueInches(Due t, int lie, int least, int most) {
        int count = most - least + 1;
        t.due("inches(" + lie + ", -1)", count, t.x.inches(lie, -1));
        t.due("inches(" + lie + ", 0)", count > 0 ? least : -1, t.x.inches(lie, 0));
        t.due("inches(" + lie + ", last)", count > 0 ? most : -1, t.x.inches(lie, count - 1 >= 0 ? count - 1 : 0));
        t.due("inches(" + lie + ", behind)", -1, t.x.inches(lie, Math.max(0, count)));
    }

    private static void inchesAll(Due t) {
        t.sentence("23. INCHES of a LIE (all, if nothing is SEEN)");
        t.street(ONE + "burns 1;", 4);
        t.due("inches(0, -1), not lit", -1, t.x.inches(0, -1));
        t.due("inches(0, 0), not lit", -1, t.x.inches(0, 0));
        t.x.light(0, 1);
        t.due("inches(0, -1)", 99, t.x.inches(0, -1));
        for (int k = 0; k < 99; k++) {
            t.due("inches(0, " + k + ")", k + 1, t.x.inches(0, k));
        }
        for (int k : new int[] {99, 100, -2, Integer.MIN_VALUE, Integer.MAX_VALUE}) {
            t.due("inches(0, " + k + ")", -1, t.x.inches(0, k));
        }
        t.due("inches(1, -1)", -1, t.x.inches(1, -1));
        t.due("inches(-1, -1)", -1, t.x.inches(-1, -1));
    }

    private static void inchesEnds(Due t) {
        t.sentence("III. INCHES (1 .. 99) are how long the candle of a told lit LIE can be now, so that all is so");
        t.street(TWO + "burns 1+96*(told/2)*(1-told/3);", 6);
        t.x.light(0, 50);
        // Behind 2 HOURS 2 inches are gone, behind 3 all 99.
        seen(t, 1, 3, 1, 1);
        t.due("inches(0, -1)", 0, t.x.inches(0, -1));
        t.due("inches(0, 0)", -1, t.x.inches(0, 0));
        t.street(TWO + "burns 1;", 6);
        t.x.light(0, 50);
        seen(t, 1, 0, 1, 1);
        dueInches(t, 0, 1, 99);
        seen(t, 1, 0, 1, 0);
        dueInches(t, 0, 1, 0);
        seen(t, 1, 1, 1, 0);
        dueInches(t, 0, 1, 1);
        seen(t, 1, 1, 1, 1);
        dueInches(t, 0, 2, 99);
        seen(t, 1, 30, 1, 0);
        dueInches(t, 0, 1, 30);
        seen(t, 2, 30, 1, 1, 30, 7, 0);
        dueInches(t, 0, 31, 99);
        seen(t, 2, 30, 1, 1, 30, 7, 1);
        dueInches(t, 0, 1, 0);
        seen(t, 3, 29, 1, 1, 30, 1, 0, 4, 8, 0);
        dueInches(t, 0, 30, 30);
        seen(t, 1, 1, 1, 2);
        dueInches(t, 0, 1, 0);
        t.street(TWO + "burns 98;", 6);
        t.x.light(0, 50);
        seen(t, 1, 1, 1, 1);
        dueInches(t, 0, 99, 99);
    }

    private static void inchesToldStays(Due t) {
        t.sentence("III. INCHES .. how long the candle can be now (for how many HOURS it has been lit stays)");
        t.street(ONE + "burns told;", 4);
        t.x.light(0, 50);
        t.x.hours(3);
        seen(t, 1, 2, 1, 0);
        dueInches(t, 0, 1, 7);
        t.sentence("23. HOURS beyond 999 are by none");
        t.street(ONE + "burns 1;", 4);
        toHour(t, 969);
        t.x.light(0, 50);
        seen(t, 1, 30, 1, 0);
        dueInches(t, 0, 1, 30);
        t.x.hours(1);
        dueInches(t, 0, 1, 0);
        seen(t, 1, 29, 1, 0);
        dueInches(t, 0, 1, 29);
        seen(t, 2, 0, 1, 1, 30, 1, 1);
        dueInches(t, 0, 1, 0);
        t.due("tells(0, 0)", -1, t.x.tells(0, 0));
        seen(t, 1, 30, 2, 0);
        dueInches(t, 0, 1, 0);
    }

    private static void dueTells(Due t, int lie, int hours, int window, int left) {
        t.due("tells(" + lie + ", 0)", hours, t.x.tells(lie, 0));
        t.due("tells(" + lie + ", 1)", window, t.x.tells(lie, 1));
        t.due("tells(" + lie + ", 2)", left, t.x.tells(lie, 2));
        t.due("tells(" + lie + ", 3)", -1, t.x.tells(lie, 3));
        t.due("tells(" + lie + ", -1)", -1, t.x.tells(lie, -1));
    }

    private static void tellingHours(Due t) {
        t.sentence("III. TELLING is the number of HOURS AHEAD (1 .. 30)");
        t.street(ONE + "burns 1;", 4);
        t.x.light(0, 50);
        // Behind 50 HOURS it would be halves; behind 30, 69 are left.
        dueTells(t, 0, 30, 1, 69);
        t.street(ONE + "burns 50;", 4);
        t.x.light(0, 50);
        dueTells(t, 0, 1, 1, 50);
        t.street(ONE + "burns 50*(told/29);", 4);
        t.x.light(0, 50);
        dueTells(t, 0, 30, 1, 50);
        t.street(ONE + "burns 50*(told/30);", 4);
        t.x.light(0, 50);
        dueTells(t, 0, 1, 0, 99);
        t.sentence("III. TELLING .. HOURS AHEAD (not beyond HOUR 999)");
        t.street(ONE + "burns 1;", 4);
        toHour(t, 969);
        t.x.light(0, 50);
        dueTells(t, 0, 30, 1, 69);
        t.x.hours(1);
        dueTells(t, 0, 29, 1, 70);
        toHour(t, 998);
        dueTells(t, 0, 1, 1, 98);
        t.x.hours(1);
        dueTells(t, 0, -1, -1, -1);
    }

    private static void tellingFirst(Due t) {
        t.sentence("III. of like ones the first, HOUR by HOUR, WINDOW by WINDOW");
        t.street(ONE + "burns 0;", 4);
        t.x.light(0, 50);
        dueTells(t, 0, 1, 0, 99);
        // Once half of them are out, they are so behind each further HOUR.
        t.street(ONE + "burns 50*(1-min(1,told));", 4);
        t.x.light(0, 50);
        dueTells(t, 0, 1, 1, 50);
        // The WINDOW beside tells as much an HOUR later: there it is lit on, if and only if this one is out.
        t.street("street 9;person p at 3 trust 1;person q at 2 trust 1;lie l of p;lie m of q;burns 50*near;tallow 999;", 7);
        t.x.light(0, 60);
        t.x.light(1, 99);
        dueTells(t, 0, 1, 3, 50);
    }

    private static void tellingWindows(Due t) {
        t.sentence("III. TELLING .. the WINDOW (the first, the last one)");
        t.street("street 30;person p at 0 trust 1;lie l of p;burns 3;", 4);
        t.x.light(0, 50);
        dueTells(t, 0, 16, 0, 51);
        t.x.move(0, 29);
        dueTells(t, 0, 16, 29, 51);
        t.sentence("III. by whose lit LIES, however many there are");
        t.street("street 9;person p at 4 trust 1;lie a of p;lie b of p;lie c of p;burns 1+16*near;tallow 999;", 7);
        t.x.light(0, 50);
        t.x.light(1, 58);
        t.x.light(2, 58);
        // Behind 2 HOURS: of 1 .. 33 inches the other two are lit, of 34 .. 66 none, of 67 .. 99 this one alone.
        dueTells(t, 0, 2, 4, 33);
    }

    private static void tellingFull(Due t) {
        t.sentence("III. TELLING .. by whose lit LIES, however many there are (all 8, and 6 PEOPLE)");
        t.street(EIGHT + "person q at 2 trust 1;person r at 3 trust 1;person s at 4 trust 1;person u at 5 trust 1;person v at 8 trust 1;", 17);
        for (int l = 0; l < 8; l++) {
            t.x.light(l, 99);
        }
        dueTells(t, 7, 30, 1, 69);
        t.x.move(0, 8);
        dueTells(t, 0, 30, 8, 69);
        seen(t, 1, 0, 8, 8);
        dueInches(t, 7, 1, 99);
        seen(t, 1, 30, 8, 8);
        dueInches(t, 7, 31, 99);
        seen(t, 1, 30, 8, 7);
        dueInches(t, 7, 1, 30);
    }

    private static void tellingNone(Due t) {
        t.sentence("24. NONE without any, when no HOUR comes, it is not lit, there is none such, or for others");
        t.street(TWO + "burns 1;", 6);
        dueTells(t, 0, -1, -1, -1);
        dueTells(t, 2, -1, -1, -1);
        dueTells(t, -1, -1, -1, -1);
        t.x.light(0, 50);
        dueTells(t, 1, -1, -1, -1);
        seen(t, 1, 0, 1, 8);
        dueTells(t, 0, -1, -1, -1);
        seen(t, 1, 5, 1, 0);
        // 1 to 5 inches are left.
        dueTells(t, 0, 2, 1, 3);
        seen(t, 2, 5, 1, 0, 4, 1, 1);
        dueTells(t, 0, 1, 0, 1);
    }
}
