/** Edges of several promises at once: last inches, full streets, long texts, what one call must not leave to the next. */
final class EdgeTest {
    public static void main(String[] args) {
        Due t = new Due();
        lastInch(t);
        beside(t);
        fullStreet(t);
        longTexts(t);
        leftOvers(t);
        skippedWords(t);
        glued(t);
        swaps(t);
        t.close();
    }

    private static void lastInch(Due t) {
        t.street("street 3;person a at 0 trust 1;lie x of a;light x at 1 for 99;burns 0;gust 100;", 6);
        t.x.light(0, 1);
        t.due("has(6)", 1, t.x.has(6));
        t.due("has(7)", 1, t.x.has(7));
        t.due("person(0, 2)", 1, t.x.person(0, 2));
        t.due("light(0, 1), lit", false, t.x.light(0, 1));
        t.due("shorts of a lit one", -1, t.x.shorts(0, 1));
        t.due("keystone(1, 0)", 0, t.x.keystone(1, 0));
        t.due("inches(0, -1)", 99, t.x.inches(0, -1));
        t.due("out(0)", -1, t.x.out(0));
        t.ask("total lit", 1);
        t.ask("most glow 0", 1);
        t.due("odds(0)", 200, t.x.odds(0));
        // In HOUR 0 a gust in WINDOW 0 or another one; the row of HOUR 1 asks for all the tallow there is.
        long x = (1103515245L + 12345L) % 2147483648L;
        x = (1103515245L * x + 12345L) % 2147483648L;
        boolean blown = x / 64 % 3 == 0;
        t.due("chance(1)", 1, t.x.chance(1));
        t.due("candle", blown ? 0 : 1, t.x.lie(0, 1));
        t.x.undo();
        t.due("snuff(0)", 1, t.x.snuff(0));
        t.x.light(0, 1);
        t.x.snuff(0);
        t.due("buy", -1, t.x.buy(0));
        t.x.hours(2);
        t.due("candle of all the tallow", 99, t.x.lie(0, 1));
        t.street("street 3;person a at 0 trust 1;lie x of a;light x at 1 for 50;tallow 50;burns 0;", 6);
        t.x.hours(2);
        t.due("candle of all the tallow", 50, t.x.lie(0, 1));
        t.due("tallow", 0, t.x.has(5));
    }

    private static void beside(Due t) {
        t.street("street 9;person a at 4 trust 1;person b at 0 trust 1;lie x of a;lie y of b;", 5);
        t.x.light(1, 5);
        int[] near = {0, 0, 0, 1, 1, 1, 0, 0, 0};
        for (int w = 1; w < 9; w++) {
            t.x.move(1, w);
            t.due("near from window " + w, near[w], t.x.lie(0, 6));
        }
        // The two ends of a street are not beside one another.
        t.x.move(0, 0);
        t.due("near", 0, t.x.lie(0, 6));
    }

    private static String full() {
        StringBuilder b = new StringBuilder("street 30;");
        for (int k = 0; k < 6; k++) {
            b.append("person p").append((char) ('a' + k)).append(" at ").append(k == 0 ? 0 : 5 * k).append(" trust ").append(k).append(";");
        }
        for (int k = 0; k < 8; k++) {
            b.append("lie l").append((char) ('a' + k)).append(" of pb;");
        }
        return b.append("tallow 999;burns 1;").toString();
    }

    private static void fullStreet(Due t) {
        t.anew();
        t.street(full(), 17);
        for (int l = 0; l < 8; l++) {
            t.due("light", true, t.x.light(l, 10 + l));
        }
        t.due("near", 7, t.x.lie(7, 6));
        t.due("lit", 8, t.x.person(1, 2));
        t.ask("most glow 5", 8);
        t.ask("total wax number", 108);
        t.due("together(255, 9)", 1, t.x.together(255, 9));
        t.due("together(255, 10)", -1, t.x.together(255, 10));
        t.due("together(256, 1)", -1, t.x.together(256, 1));
        t.due("keystone(1, 1)", 7, t.x.keystone(1, 1));
        t.due("image()", 27, t.x.image());
        int[] bytes = new int[27];
        int check = 167;
        for (int k = 0; k < 27; k++) {
            bytes[k] = t.x.octet(k);
            if (k < 26) {
                check = (3 * check + bytes[k]) % 251;
            }
        }
        t.due("octet(2)", 3, bytes[2]);
        t.due("octet(3)", 123, bytes[3]);
        t.due("octet(9)", 25, bytes[9]);
        t.due("octet(24)", 17, bytes[24]);
        t.due("octet(26)", check, bytes[26]);
        t.x.hours(12);
        t.tape(bytes);
        t.due("on()", true, t.x.on());
        t.due("lit", 8, t.x.has(6));
        t.tape(0, 5, 8);
        t.due("see()", 1, t.x.see());
        t.due("inches(7, -1)", 99, t.x.inches(7, -1));
        // The others end behind 10 to 16 HOURS: by how many are lit one always knows whether this one is.
        t.due("tells(7, 0)", 30, t.x.tells(7, 0));
        t.due("tells(7, 1)", 5, t.x.tells(7, 1));
        t.due("tells(7, 2)", 69, t.x.tells(7, 2));
    }

    private static void longTexts(Due t) {
        t.anew();
        String head = "street 9;person a at 4 trust 1;lie x of a;burns 0";
        StringBuilder b = new StringBuilder(head);
        int ones = (1599 - head.length()) / 2;
        for (int k = 0; k < ones; k++) {
            b.append("+").append(k < 40 ? 1 : 0);
        }
        b.append(";");
        t.street(b.toString(), 4);
        t.x.light(0, 99);
        t.due("later(0, 1)", 59, t.x.later(0, 1));
        t.x.snuff(0);
        StringBuilder q = new StringBuilder("total 3");
        for (int k = 0; k < 796; k++) {
            q.append("-1");
        }
        t.ask(q.toString(), -793);
        String deep = "1+1*min(2,1+1*min(3,1+1*min(4,1+1*min(5,1+1*min(6,1+1*min(7,1+1*2))))))";
        t.ask("most " + deep, 3);
        t.ask("often 1=2 or all and 3<4-1*(1+1*(1+1*(1+1*(1+1*(1+1*(2))))))+9", 1);
        t.ask("often 1=2 or all and[1=2 or all and[1=2 or all and[1=2 or all and[1=2 or all and[1=2 or all and 7=1+2*3]]]]]", 1);
    }

    private static void leftOvers(Due t) {
        t.anew();
        t.streetFault(1, "street 9;burns ((((((1@;");
        t.street("street 9;burns ((((((1))))));", 2);
        t.askFault(1, "total ((((((1@");
        t.ask("total ((((((1))))))", 0);
        t.street("street 9;person a at 0 trust 1;lie x of a;gust 100;tallow 7;drafts 5;burns 9;believes 1=2;light x at 0 for 1;", 9);
        t.street("street 9;person a at 0 trust 1;lie x of a;", 3);
        t.due("tallow", 100, t.x.has(5));
        t.due("rows", 0, t.x.has(3));
        t.due("draft", 0, t.x.draft(0, 0));
        t.x.light(0, 9);
        t.due("believed", 1, t.x.has(7));
        t.due("odds", 900, t.x.odds(0));
        t.due("chance(5)", 0, t.x.chance(5));
        t.due("candle", 4, t.x.lie(0, 1));
        t.street("street 9;person a at 0 trust 1;lie w of a;lie x of a;hangs x on w;", 5);
        t.street("street 9;person a at 0 trust 1;lie w of a;lie x of a;", 4);
        t.due("hangs", -1, t.x.lie(1, 4));
        t.due("hanging", 0, t.x.lie(0, 5));
        // What is KEPT comes back by undo, LIE by LIE.
        t.x.light(0, 2);
        t.x.hours(2);
        for (int k = 0; k < 45; k++) {
            t.x.light(1, 1);
            t.x.hours(1);
        }
        t.due("kept(39, 1)", 1, t.x.kept(39, 1));
        t.street("street 9;person a at 0 trust 1;lie w of a;lie x of a;tallow 999;", 5);
        for (int k = 0; k < 40; k++) {
            t.x.light(0, 1);
            t.x.hours(1);
        }
        t.x.light(1, 1);
        t.x.hours(1);
        t.due("kept(39, 1)", 1, t.x.kept(39, 1));
        t.due("kept(0, 0)", 1, t.x.kept(0, 0));
        t.x.undo();
        t.due("kept(39, 1)", 0, t.x.kept(39, 1));
        t.due("kept(0, 1)", 0, t.x.kept(0, 1));
        t.due("kept(0, 0)", 0, t.x.kept(0, 0));
    }

    private static void skippedWords(Due t) {
        String m = "street 9;person p at 1 trust 1;lie l of p;lie m of p;";
        t.anew();
        t.streetFault(1, "street 9;person p @1 trust 1;");
        t.streetFault(1, "street 9;person p at 1 @1;");
        t.streetFault(1, m + "lie n @p;");
        t.streetFault(1, m + "hangs m @l;");
        t.streetFault(1, m + "light l @1 for 1;");
        t.streetFault(1, m + "light l at 1 @1;");
        t.streetFault(1, m + "person @;");
        t.streetFault(1, m + "tallow @x;");
        t.streetFault(1, m + "gust @;");
    }

    private static void glued(Due t) {
        t.anew();
        t.streetFault(1, "street 9;believes 1<0@or all;");
        t.streetFault(1, "street 9;believes 1<9@and all;");
        t.streetFault(1, "street 9;person a at 0@trust 1;");
        t.streetFault(1, "street 9;person a at@0 trust 1;");
        t.streetFault(1, "street 9;gust@0;");
        t.street("street 9;believes 1<(0)or all and[1<9]or not(1)=1;", 2);
    }

    private static void swaps(Due t) {
        // Each pair is tried by itself, on what is now.
        t.anew();
        t.street("street 9;person a at 0 trust 1;person b at 2 trust 1;person c at 4 trust 1;person d at 8 trust 1;"
                + "lie x of a;lie y of b;lie z of c;drafts place;burns draft;believes inches>4;", 11);
        t.x.light(0, 9);
        t.x.light(1, 9);
        t.x.light(2, 9);
        // 9 inches burn 0, 2, 4, 8 an HOUR: behind 2 HOURS x and y are believed; none is better.
        t.due("change(2, 2)", 2, t.x.change(2, 2));
        t.due("change(2, 0)", -1, t.x.change(2, 0));
        t.x.move(3, 1);
        // d now lives where 1 burns: with c there all three are believed.
        t.due("change(2, 2)", 3, t.x.change(2, 2));
        t.due("change(2, 0)", 2, t.x.change(2, 0));
        t.due("change(2, 1)", 3, t.x.change(2, 1));
        t.due("change(3, 2)", 2, t.x.change(3, 2));
        t.due("change(3, 0)", 1, t.x.change(3, 0));
        t.due("change(3, 1)", 3, t.x.change(3, 1));
    }
}
