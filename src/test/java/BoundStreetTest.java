/** Terms I: the bounds of a STREET, its numbers, names, sums and tests; a method for each sentence that names some. */
final class BoundStreetTest {
    private static final String P = "street 9;person p at 1 trust 1;";
    private static final String L = P + "lie l of p;";
    private static final String M = L + "lie m of p;lie n of p;";

    public static void main(String[] args) {
        Due t = new Due();
        sixtyStatements(t);
        windows(t);
        firstStatement(t);
        homes(t);
        trusts(t);
        people(t);
        lies(t);
        owners(t);
        hangs(t);
        hangsOnOne(t);
        planHours(t);
        planInches(t);
        rows(t);
        tallow(t);
        gust(t);
        oneEach(t);
        digits(t);
        divisions(t);
        leastAndGreatest(t);
        limits(t);
        untold(t);
        nameLetters(t);
        ownWords(t);
        unlikeNames(t);
        toldAhead(t);
        blanks(t);
        blankNeeded(t);
        partsOfEach(t);
        t.close();
    }

    private static void sixtyStatements(Due t) {
        t.sentence("I. A STREET is a text: { STATEMENT ; } (60 at most)");
        t.street("street 2;", 1);
        t.street("street 2;" + "gust 1;".repeat(58), 59);
        t.street("street 2;" + "gust 1;".repeat(59), 60);
        t.street("street 2;" + "gust 1;".repeat(59) + " \n ", 60);
        t.streetFault(5, "street 2;" + "gust 1;".repeat(59) + "@gust 1;");
        t.streetFault(5, "street 2;" + "gust 1;".repeat(59) + " \n @gust 1;gust 1;");
    }

    private static void windows(Due t) {
        t.sentence("I. street N (2 .. 30 windows)");
        t.street("street 2;", 1);
        t.due("has(0)", 2, t.x.has(0));
        t.street("street 30;", 1);
        t.due("has(0)", 30, t.x.has(0));
        t.streetFault(2, "street @0;");
        t.streetFault(2, "street @1;");
        t.streetFault(2, "street @31;");
        t.streetFault(2, "street @9999;");
        t.due("has(0) behind the faults", 30, t.x.has(0));
    }

    private static void firstStatement(Due t) {
        t.sentence("I. street N (the first STATEMENT, and it alone)");
        String[] others = {"person p at 1 trust 1;", "lie l of p;", "hangs l on m;", "light l at 1 for 1;", "tallow 1;", "drafts 1;",
            "burns 1;", "believes all;", "gust 1;"};
        for (String other : others) {
            t.streetFault(1, "@" + other + "street 2;");
        }
        t.streetFault(1, "street 2;@street 2;");
        t.streetFault(1, P + "@street 9;");
    }

    private static void homes(Due t) {
        t.sentence("I. person NAME at N (a WINDOW, from 0 on)");
        t.street("street 2;person p at 0 trust 1;person q at 1 trust 1;", 3);
        t.due("person(0, 0)", 0, t.x.person(0, 0));
        t.due("person(1, 0)", 1, t.x.person(1, 0));
        t.streetFault(2, "street 2;person p at @2 trust 1;");
        t.street("street 30;person p at 29 trust 1;", 2);
        t.due("person(0, 0)", 29, t.x.person(0, 0));
        t.streetFault(2, "street 30;person p at @30 trust 1;");
        t.streetFault(2, "street 30;person p at @9999 trust 1;");
    }

    private static void trusts(Due t) {
        t.sentence("I. trust N (0 .. 9)");
        t.street("street 2;person p at 0 trust 0;person q at 0 trust 9;", 3);
        t.due("person(0, 1)", 0, t.x.person(0, 1));
        t.due("person(1, 1)", 9, t.x.person(1, 1));
        t.streetFault(2, "street 2;person p at 0 trust @10;");
        t.streetFault(2, "street 2;person p at 0 trust @9999;");
    }

    private static String some(int people, int lies) {
        StringBuilder b = new StringBuilder("street 9;");
        for (int k = 0; k < people; k++) {
            b.append("person p").append((char) ('a' + k)).append(" at ").append(k).append(" trust ").append(k).append(";");
        }
        for (int k = 0; k < lies; k++) {
            b.append("lie l").append((char) ('a' + k)).append(" of p").append((char) ('a' + k % people)).append(";");
        }
        return b.toString();
    }

    private static void people(Due t) {
        t.sentence("I. person (6 PEOPLE)");
        t.street(some(1, 0), 2);
        t.due("has(1)", 1, t.x.has(1));
        t.street(some(6, 0), 7);
        t.due("has(1)", 6, t.x.has(1));
        t.due("person(5, 0)", 5, t.x.person(5, 0));
        t.due("person(6, 0)", -1, t.x.person(6, 0));
        t.streetFault(5, some(6, 0) + "@person q at 1 trust 1;");
        t.streetFault(5, some(6, 0) + "gust 1; @person");
    }

    private static void lies(Due t) {
        t.sentence("I. lie (8 LIES)");
        t.street(some(1, 0), 2);
        t.due("has(2)", 0, t.x.has(2));
        t.street(some(6, 8), 15);
        t.due("has(2)", 8, t.x.has(2));
        t.due("lie(7, 0)", 1, t.x.lie(7, 0));
        t.due("lie(8, 0)", -1, t.x.lie(8, 0));
        t.streetFault(5, some(6, 8) + "@lie x of pa;");
        t.streetFault(5, some(6, 8) + "gust 1;\n@lie;");
    }

    private static void owners(Due t) {
        t.sentence("I. lie NAME of NAME (a PERSON)");
        t.streetFault(3, L + "lie m of @l;");
        t.streetFault(3, L + "lie m of @m;");
        t.streetFault(3, L + "lie m of @q;");
        t.streetFault(3, "street 2;lie m of @p;");
    }

    private static void hangs(Due t) {
        t.sentence("I. hangs NAME on NAME (two LIES, the first one told behind the second)");
        t.street(M + "hangs m on l;hangs n on m;", 7);
        t.due("lie(1, 4)", 0, t.x.lie(1, 4));
        t.due("lie(2, 4)", 1, t.x.lie(2, 4));
        t.streetFault(3, M + "hangs m on @m;");
        t.streetFault(3, M + "hangs m on @n;");
        t.streetFault(3, M + "hangs l on @n;");
        t.streetFault(3, M + "hangs m on @p;");
        t.streetFault(3, M + "hangs m on @x;");
        t.streetFault(3, M + "hangs @p on l;");
        t.streetFault(3, M + "hangs @x on l;");
    }

    private static void hangsOnOne(Due t) {
        t.sentence("I. hangs (a LIE hangs on one at most)");
        t.street(M + "hangs m on l;hangs n on l;", 7);
        t.due("lie(0, 4)", -1, t.x.lie(0, 4));
        t.streetFault(3, M + "hangs n on l;hangs @n on m;");
        t.streetFault(3, M + "hangs n on l;hangs @n on l;");
    }

    private static void planHours(Due t) {
        t.sentence("I. light NAME at N (an HOUR 0 .. 999)");
        t.street(L + "light l at 0 for 1;light l at 999 for 1;", 5);
        t.due("plan(0, 1)", 0, t.x.plan(0, 1));
        t.due("plan(1, 1)", 999, t.x.plan(1, 1));
        t.streetFault(2, L + "light l at @1000 for 1;");
        t.streetFault(2, L + "light l at @9999 for 1;");
    }

    private static void planInches(Due t) {
        t.sentence("I. light .. for N (1 .. 99 inches)");
        t.street(L + "light l at 0 for 1;light l at 0 for 99;", 5);
        t.due("plan(0, 2)", 1, t.x.plan(0, 2));
        t.due("plan(1, 2)", 99, t.x.plan(1, 2));
        t.streetFault(2, L + "light l at 1 for @0;");
        t.streetFault(2, L + "light l at 1 for @100;");
    }

    private static void rows(Due t) {
        t.sentence("I. the next row of the PLAN; 16 rows");
        String fifteen = L;
        for (int k = 0; k < 15; k++) {
            fifteen += "light l at " + k + " for " + (k + 1) + ";";
        }
        t.street(fifteen, 18);
        t.due("has(3)", 15, t.x.has(3));
        t.street(fifteen + "light l at 77 for 88;", 19);
        t.due("has(3)", 16, t.x.has(3));
        t.due("plan(15, 1)", 77, t.x.plan(15, 1));
        t.due("plan(15, 2)", 88, t.x.plan(15, 2));
        t.due("plan(16, 1)", -1, t.x.plan(16, 1));
        t.streetFault(5, fifteen + "light l at 77 for 88;@light l at 78 for 1;");
        t.streetFault(5, fifteen + "light l at 77 for 88;tallow 1; @light 7");
    }

    private static void tallow(Due t) {
        t.sentence("I. tallow N (0 .. 999; the last one counts, 100 without)");
        t.street("street 9;tallow 0;", 2);
        t.due("has(5)", 0, t.x.has(5));
        t.street("street 9;tallow 999;", 2);
        t.due("has(5)", 999, t.x.has(5));
        t.streetFault(2, "street 9;tallow @1000;");
        t.street("street 9;tallow 999;tallow 0;tallow 7;", 4);
        t.due("has(5)", 7, t.x.has(5));
        t.street("street 9;", 1);
        t.due("has(5)", 100, t.x.has(5));
    }

    /** A gust of N takes N of the 200 rows that the one LIE has. */
    private static void dueGust(Due t, String gusts, int gust) {
        String head = "street 2;person p at 1 trust 1;lie l of p;burns 0;";
        t.street(head + gusts, 4 + gusts.length() - gusts.replace(";", "").length());
        t.x.light(0, 1);
        t.due("odds(0) with " + gusts, 200 - gust, t.x.odds(0));
    }

    private static void gust(Due t) {
        t.sentence("I. gust N (0 .. 100; the last one counts, 0 without)");
        dueGust(t, "gust 0;", 0);
        dueGust(t, "gust 1;", 1);
        dueGust(t, "gust 99;", 99);
        dueGust(t, "gust 100;", 100);
        dueGust(t, "gust 100;gust 0;gust 30;", 30);
        dueGust(t, "", 0);
        t.streetFault(2, "street 9;gust @101;");
        t.streetFault(2, "street 9;gust @9999;");
    }

    private static void oneEach(Due t) {
        t.sentence("I. drafts SUM, burns SUM, believes TEST (one each)");
        t.street("street 9;believes all;drafts 1;burns 1;", 4);
        t.streetFault(5, "street 9;drafts 1;@drafts 1;");
        t.streetFault(5, "street 9;burns 1;gust 1;@burns 1;");
        t.streetFault(5, "street 9;believes all; @believes all;");
        t.streetFault(5, "street 9;burns 1;drafts 0;@drafts x");
        t.streetFault(5, "street 9;believes all;burns 0;@burns");
        t.streetFault(5, "street 9;drafts 0;believes 1=2;@believes?");
    }

    private static void digits(Due t) {
        t.sentence("I. PART: N (1 to 4 digits)");
        t.street("street 9;drafts 9999-9998+0*0000;burns 0001;", 3);
        t.due("draft(0, 0)", 1, t.x.draft(0, 0));
        t.streetFault(1, "street 9;drafts 1000@0;");
        t.streetFault(1, "street 9;burns 0000@1;");
        t.streetFault(1, "street 9;believes 1<1234@567;");
        t.streetFault(1, "street 9;burns @;");
    }

    private static void dueDraft(Due t, String sum, int draft) {
        t.street("street 2;drafts " + sum + ";", 2);
        t.due("draft(0, 0) of " + sum, draft, t.x.draft(0, 0));
    }

    private static void divisions(Due t) {
        t.sentence("I. / gives the greatest whole number not above, by 0 it gives 0");
        dueDraft(t, "7/2", 3);
        dueDraft(t, "8/2", 4);
        dueDraft(t, "(0-7)/2+9", 5);
        dueDraft(t, "(0-8)/2+9", 5);
        dueDraft(t, "7/(0-2)+9", 5);
        dueDraft(t, "(0-1)/9999+9", 8);
        dueDraft(t, "(0-7)/(0-2)", 3);
        dueDraft(t, "0/(0-2)+9", 9);
        dueDraft(t, "7/0+3", 3);
        dueDraft(t, "(0-7)/0+3", 3);
        dueDraft(t, "0/0+3", 3);
        dueDraft(t, "7/(hour-place)+3", 3);
    }

    private static void leastAndGreatest(Due t) {
        t.sentence("I. PART: min ( SUM , SUM ) ; max ( SUM , SUM )");
        dueDraft(t, "min(3,4)", 3);
        dueDraft(t, "min(4,3)", 3);
        dueDraft(t, "min(3,3)", 3);
        dueDraft(t, "max(3,4)", 4);
        dueDraft(t, "max(4,3)", 4);
        dueDraft(t, "max(4,4)", 4);
        dueDraft(t, "min(0-2,0-3)+9", 6);
        dueDraft(t, "max(0-2,0-3)+9", 7);
        dueDraft(t, "max(9999*9999,1)-999*1000-998", 2);
        dueDraft(t, "1+min(2,3)*max(2,1)-min(max(1,0),5)", 4);
    }

    private static void limits(Due t) {
        t.sentence("I. each sum, difference, product above 10 to the 6 is that, below -10 to the 6 likewise");
        dueDraft(t, "1000*1000-999*1000-998", 2);
        dueDraft(t, "1000*1000+0-999*1000-998", 2);
        dueDraft(t, "1000*1000+1-999*1000-998", 2);
        dueDraft(t, "1001*1000-999*1000-998", 2);
        dueDraft(t, "999*1001-998*1001-999", 2);
        dueDraft(t, "(1000*1000-(0-1))-999*1000-998", 2);
        dueDraft(t, "0-1000*1000+999*1000+1003", 3);
        dueDraft(t, "0-1000*1000-1+999*1000+1003", 3);
        dueDraft(t, "0-1000*1000+(0-1)+999*1000+1003", 3);
        dueDraft(t, "(0-1001)*1000+999*1000+1003", 3);
        dueDraft(t, "(0-999)*1001+998*1001+1004", 3);
        dueDraft(t, "9999*9999*(9999*9999)/(9999*100)", 1);
        dueDraft(t, "9999*9999*(0-9999*9999)/(9999*100)+4", 2);
        t.sentence("I. each sum .. likewise (of burns, of believes)");
        t.street("street 2;person p at 1 trust 1;lie l of p;burns 1000*1000+9-999*1000-998;believes 1000*1000+9=1000*1000;", 5);
        t.x.light(0, 9);
        t.due("later(0, 1)", 7, t.x.later(0, 1));
        t.due("held(0, 0)", 1, t.x.held(0, 0));
    }

    private static void untold(Due t) {
        t.sentence("I. Without: drafts is 0, burns is 1+near, believes is all");
        t.street("street 4;person p at 1 trust 0;person q at 2 trust 0;lie l of p;lie m of q;", 5);
        t.due("draft(0, 0)", 0, t.x.draft(0, 0));
        t.due("draft(3, 60)", 0, t.x.draft(3, 60));
        t.x.light(0, 9);
        t.due("later(0, 1)", 8, t.x.later(0, 1));
        t.due("held(0, 1)", 1, t.x.held(0, 1));
        t.x.light(1, 9);
        t.due("later(0, 1)", 7, t.x.later(0, 1));
    }

    private static void nameLetters(Due t) {
        t.sentence("I. NAMES: 1 to 6 letters");
        t.street("street 9;person z at 1 trust 1;person azazaz at 1 trust 1;lie b of azazaz;lie azazay of z;", 5);
        t.due("letter(0, 0, 0)", 26, t.x.letter(0, 0, 0));
        t.due("letter(0, 0, 1)", 0, t.x.letter(0, 0, 1));
        t.due("letter(0, 1, 5)", 26, t.x.letter(0, 1, 5));
        t.due("letter(1, 1, 5)", 25, t.x.letter(1, 1, 5));
        t.due("lie(0, 0)", 1, t.x.lie(0, 0));
        t.due("lie(1, 0)", 0, t.x.lie(1, 0));
        t.streetFault(1, "street 9;person azazaz@a at 1 trust 1;");
        t.streetFault(1, P + "lie azazaz@azaz of p;");
        t.streetFault(1, P + "lie l of azazaz@a;");
        t.streetFault(1, L + "hangs azazaz@a on l;");
        t.streetFault(1, M + "hangs m on azazaz@a;");
        t.streetFault(1, L + "light azazaz@a at 1 for 1;");
        t.streetFault(1, "street 9;person @0 at 1 trust 1;");
        t.streetFault(1, "street 9;person @`a at 1 trust 1;");
        t.streetFault(1, "street 9;person @{ at 1 trust 1;");
        t.streetFault(1, "street 9;person @A at 1 trust 1;");
        t.streetFault(1, "street 9;person @;");
    }

    private static void ownWords(Due t) {
        String[] own = ("street person at trust lie of hangs on light for tallow drafts burns believes gust inches near draft told hour "
                + "place number lit held wax glow or and not all min max").split(" ");
        for (String word : own) {
            t.sentence("I. NAMES: no OWN WORD: " + word);
            t.streetFault(1, "street 9;person @" + word + " at 1 trust 1;");
            t.streetFault(1, P + "lie @" + word + " of p;");
            t.streetFault(1, P + "lie l of @" + word + ";");
            t.streetFault(1, L + "hangs @" + word + " on l;");
            t.streetFault(1, L + "light @" + word + " at 1 for 1;");
            if (word.length() < 6) {
                t.street("street 9;person " + word + "x at 1 trust 1;person x" + word + " at 1 trust 1;", 3);
            }
            if (word.length() > 2 && word.length() < 8 && !word.equals("drafts") && !word.equals("all")) {
                t.street("street 9;person " + word.substring(0, word.length() - 1) + " at 1 trust 1;", 2);
            }
        }
        t.sentence("I. OWN WORDS (those of a QUESTION are none)");
        t.street("street 9;person first at 1 trust 1;person last at 1 trust 1;person often at 1 trust 1;"
                + "lie total of first;lie most of last;lie least of often;", 7);
    }

    private static void unlikeNames(Due t) {
        t.sentence("I. NAMES: unlike ones (of both sorts)");
        t.street(L + "person pp at 1 trust 1;lie ll of pp;person abcdef at 1 trust 1;person abcde at 1 trust 1;lie bcdef of p;", 8);
        t.streetFault(3, P + "person @p at 1 trust 1;");
        t.streetFault(3, L + "lie @l of p;");
        t.streetFault(3, P + "lie @p of p;");
        t.streetFault(3, L + "person @l at 1 trust 1;");
        t.streetFault(3, M + "lie @m of p;");
    }

    private static void toldAhead(Due t) {
        t.sentence("I. NAMES: told ahead of where they are asked");
        t.streetFault(3, "street 9;lie l of @p;person p at 1 trust 1;");
        t.streetFault(3, P + "light @l at 1 for 1;lie l of p;");
        t.streetFault(3, P + "hangs @m on l;lie l of p;lie m of p;");
        t.streetFault(3, L + "hangs l on @m;lie m of p;");
    }

    private static void blanks(Due t) {
        t.sentence("I. Blanks (10, 32) are where one likes");
        t.street("\n \nstreet \n 9\n;\n\nperson\np\nat\n1\ntrust\n1;lie l of p;burns(\n1+2 ) *min\n(\n1 ,\n2\n)\n;"
                + "believes\n[1<2]and not\n[\n2 < 1 ]or 1=2;\n\n", 5);
        t.street("street 9;drafts(1)+2*min(3,place);believes[1<2]or[2=3]and(1)>(0);", 3);
        for (int sign : new int[] {0, 9, 11, 13, 31, 33, 127, 160, 255}) {
            t.streetFault(1, "street 9;@" + (char) sign + "gust 1;");
            t.streetFault(1, "street@" + (char) sign + "9;");
            t.streetFault(1, "@" + (char) sign);
        }
    }

    private static void blankNeeded(Due t) {
        t.sentence("I. (words and numbers side by side need one)");
        t.streetFault(1, "street@9;");
        t.streetFault(1, "street 9;person p at@1 trust 1;");
        t.streetFault(1, "street 9;person p at 1@trust 1;");
        t.streetFault(1, "street 9;person p at 1 trust@1;");
        t.streetFault(1, "street 9;person p@1 at 1 trust 1;");
        t.streetFault(1, "street 9;person a@1 at 1 trust 1;");
        t.streetFault(1, "street 9;person z@1 at 1 trust 1;");
        t.streetFault(1, "street 9;person p at 0@trust 1;");
        t.streetFault(1, "street 30;person p at 19@trust 1;");
        t.streetFault(1, L + "light l at 1@for 1;");
        t.streetFault(1, L + "light l at 1 for@1;");
        t.streetFault(1, "street 9;believes 1<2@or 1=2;");
        t.streetFault(1, "street 9;believes 1<2@and 1=2;");
        t.streetFault(1, "street 9;believes not@1=2;");
        t.streetFault(1, "street 9;drafts@1;");
    }

    private static void partsOfEach(Due t) {
        t.sentence("I. in drafts: place; in burns, believes: inches; near; draft; told; in believes: trust");
        String[] asked = {"place", "inches", "near", "draft", "told", "trust"};
        int[] statements = {1, 6, 6, 6, 6, 4};
        String[] heads = {"drafts ", "burns ", "believes 1="};
        for (int k = 0; k < asked.length; k++) {
            for (int s = 0; s < heads.length; s++) {
                if ((statements[k] >> s & 1) == 1) {
                    t.street("street 9;" + heads[s] + "hour+" + asked[k] + ";", 2);
                } else {
                    t.streetFault(1, "street 9;" + heads[s] + "hour+@" + asked[k] + ";");
                }
            }
        }
        for (String word : new String[] {"number", "lit", "held", "wax 0", "glow 0", "all", "not", "[", "at", "first", "x"}) {
            for (String head : heads) {
                t.streetFault(1, "street 9;" + head + "1+@" + word + ";");
            }
        }
    }
}
