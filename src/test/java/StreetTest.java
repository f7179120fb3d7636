/** Promises 4 and 5: street, fault, and the texts of Terms I. */
final class StreetTest {
    private static final String P = "street 9;person p at 1 trust 1;";
    private static final String L = P + "lie l of p;";
    private static final String[] OWN = {"street", "person", "at", "trust", "lie", "of", "hangs", "on", "light", "for", "tallow",
        "drafts", "burns", "believes", "gust", "inches", "near", "draft", "told", "hour", "place", "number", "lit", "held", "wax",
        "glow", "or", "and", "not", "all", "min", "max"};

    public static void main(String[] args) {
        Due t = new Due();
        heads(t);
        names(t);
        numbers(t);
        lies(t);
        tooMany(t);
        depths(t);
        sums(t);
        staying(t);
        t.close();
    }

    private static void heads(Due t) {
        t.anew();
        t.street("street 2;", 1);
        t.street("street 30;", 1);
        t.due("windows", 30, t.x.has(0));
        t.street(" \nstreet\n0002 ; \n", 1);
        t.due("windows", 2, t.x.has(0));
        t.streetFault(1, "@");
        t.streetFault(1, " \n @");
        t.streetFault(1, "@;");
        t.streetFault(1, "@stre");
        t.streetFault(1, "@streets 2;");
        t.streetFault(1, "@Street 2;");
        t.streetFault(1, "@person p at 0 trust 1;");
        t.streetFault(1, "street@");
        t.streetFault(1, "street  @");
        t.streetFault(1, "street@;");
        t.streetFault(1, "street 2@");
        t.streetFault(1, "street 2 @");
        t.streetFault(1, "street 2 @3;");
        t.streetFault(1, "street@\t2;");
        t.streetFault(1, "street 2;@;");
        t.streetFault(1, "street 2;@x;");
        t.streetFault(1, "street 2; @street 2;");
        t.streetFault(1, "street 2;@at 1;");
        t.streetFault(1, "street 2;@first;");
        t.streetFault(1, "street 2;\n@\u00e9");
    }

    private static void names(Due t) {
        for (String word : OWN) {
            t.anew();
            t.streetFault(1, "street 9;person @" + word + " at 1 trust 1;");
        }
        t.anew();
        for (String word : new String[] {"first", "last", "often", "total", "most", "least", "abcdef", "z", "ons"}) {
            t.street("street 9;person " + word + " at 1 trust 1;", 2);
        }
        t.streetFault(1, "street 9;person abcdef@g at 1 trust 1;");
        t.streetFault(1, "street 9;person believ@esx at 1 trust 1;");
        t.streetFault(1, "street 9;person @Ab at 1 trust 1;");
        t.streetFault(1, "street 9;person a@B at 1 trust 1;");
        t.streetFault(1, "street 9;person @1 at 1 trust 1;");
        t.streetFault(1, "street 9;person p@2 at 1 trust 1;");
        t.streetFault(1, "street 9;person @");
        t.streetFault(1, "street 9;person@; at");
        t.streetFault(1, "street 9;person p @of 1 trust 1;");
        t.streetFault(3, P + "person @p at 1 trust 1;");
        t.streetFault(3, P + "lie @p of p;");
        t.streetFault(3, L + "lie @l of p;");
        t.streetFault(3, L + "person @l at 0 trust 0;");
        t.streetFault(3, P + "lie l of @l;");
        t.streetFault(3, "street 9;lie l of @p;person p at 1 trust 1;");
        t.streetFault(1, P + "lie l of abcdef@g;");
        t.streetFault(1, P + "lie l of @lie;");
        t.streetFault(1, P + "lie l of p@");
    }

    private static void numbers(Due t) {
        t.anew();
        t.streetFault(2, "street @1;");
        t.streetFault(2, "street @0;");
        t.streetFault(2, "street @31;");
        t.streetFault(2, "street @9999");
        t.streetFault(1, "street 0000@2;");
        t.streetFault(1, "street 9999@9;");
        t.streetFault(1, "street@2;");
        t.streetFault(1, "street @-2;");
        t.streetFault(1, "street 9;person p at@2 trust 1;");
        t.streetFault(1, "street 9;person p at 2@trust 1;");
        t.street("street 9;person p at 8 trust 9;person q at 0 trust 0;", 3);
        t.streetFault(2, "street 9;person p at @9 trust 1;");
        t.streetFault(2, "street 9;person p at 8 trust @10;");
        t.street(L + "light l at 999 for 99;light l at 0 for 1;", 5);
        t.streetFault(2, L + "light l at @1000 for 1;");
        t.streetFault(2, L + "light l at 1 for @0;");
        t.streetFault(2, L + "light l at 1 for @100;");
        t.street("street 9;tallow 999;tallow 0;gust 100;gust 0;", 5);
        t.due("tallow", 0, t.x.has(5));
        t.streetFault(2, "street 9;tallow @1000;");
        t.streetFault(2, "street 9;gust @101;");
    }

    private static void lies(Due t) {
        t.anew();
        String m = L + "lie m of p;lie n of p;";
        t.street(m + "hangs n on l;hangs m on l;", 7);
        t.street(m + "hangs n on m;hangs m on l;", 7);
        t.streetFault(3, m + "hangs l on @l;");
        t.streetFault(3, m + "hangs l on @m;");
        t.streetFault(3, m + "hangs n on @o;");
        t.streetFault(3, m + "hangs @p on l;");
        t.streetFault(3, m + "hangs n on @p;");
        t.streetFault(3, m + "hangs n on l;hangs @n on m;");
        t.streetFault(1, m + "hangs n @of l;");
        t.streetFault(3, m + "light @p at 1 for 1;");
        t.streetFault(1, m + "light l @on 1 for 1;");
        t.streetFault(1, m + "light l at 1 @at 1;");
    }

    private static void tooMany(Due t) {
        t.anew();
        StringBuilder b = new StringBuilder("street 9;");
        for (int k = 0; k < 6; k++) {
            b.append("person p").append((char) ('a' + k)).append(" at ").append(k).append(" trust 1;");
        }
        t.street(b.toString(), 7);
        t.streetFault(5, b + " @person x");
        t.streetFault(1, b + "@personx");
        for (int k = 0; k < 8; k++) {
            b.append("lie l").append((char) ('a' + k)).append(" of pa;");
        }
        t.street(b.toString(), 15);
        t.streetFault(5, b + "@lie");
        for (int k = 0; k < 16; k++) {
            b.append("light la at ").append(k).append(" for 3;");
        }
        t.street(b.toString(), 31);
        t.due("rows", 16, t.x.has(3));
        t.streetFault(5, b + "@light la at 17 for 3;");
        t.streetFault(5, "street 9;drafts 1;burns 1;believes all;@drafts 1;");
        t.streetFault(5, "street 9;drafts 1;burns 1;believes all; @burns 1;");
        t.streetFault(5, "street 9;drafts 1;burns 1;believes all;\n@believes all;");
        StringBuilder many = new StringBuilder("street 9;");
        for (int k = 1; k < 60; k++) {
            many.append("gust 1;");
        }
        t.street(many + " \n ", 60);
        t.streetFault(5, many + "@gust 1;");
        t.streetFault(5, many + " @?");
        t.streetFault(5, many + "\n@;");
    }

    private static void depths(Due t) {
        t.anew();
        t.street("street 9;drafts ((((((1))))))+((((((1))))));burns ((((((1))))));", 3);
        t.streetFault(4, "street 9;drafts ((((((@(1)))))));");
        t.street("street 9;believes not not not not not not all and not not not not not not 1<2;", 2);
        t.streetFault(4, "street 9;believes not not not not not not @not all;");
        t.street("street 9;believes [[[[[[all]]]]]]or[[[[[[all]]]]]];", 2);
        t.streetFault(4, "street 9;believes [[[[[[@[all]]]]]]];");
        t.street("street 9;believes not[not[min(1,(2))<max((3),4)]];", 2);
        t.streetFault(4, "street 9;believes not[not[not[min@(1,2)<3]]];");
        t.streetFault(4, "street 9;believes not[not[not[@(1)<3]]];");
        t.streetFault(4, "street 9;burns min(1,(((((@(1))))));");
        t.streetFault(1, "street 9;burns ((((((@[1]))))));");
    }

    private static void sums(Due t) {
        t.anew();
        t.street("street 9;drafts hour+place;burns hour+inches+near+draft+told;believes hour+inches+near+draft+told+trust>0;", 4);
        for (String word : new String[] {"inches", "near", "draft", "told", "trust", "number", "lit", "held", "wax 1", "all", "x"}) {
            t.streetFault(1, "street 9;drafts 1+@" + word + ";");
        }
        for (String word : new String[] {"place", "trust", "number", "lit", "held", "glow 1", "not"}) {
            t.streetFault(1, "street 9;burns 1+@" + word + ";");
        }
        for (String word : new String[] {"place", "number", "lit", "held", "wax 1"}) {
            t.streetFault(1, "street 9;believes 1+@" + word + ">1;");
        }
        t.street("street 9;burns(1)-2*3/4+min ( 1 , 2 )\n;believes[1<2]and not[all]or 2=3;", 3);
        t.streetFault(1, "street 9;burns @;");
        t.streetFault(1, "street 9;burns 1+@");
        t.streetFault(1, "street 9;burns @-1;");
        t.streetFault(1, "street 9;burns 1 @2;");
        t.streetFault(1, "street 9;burns (1@;");
        t.streetFault(1, "street 9;burns 1@);");
        t.streetFault(1, "street 9;burns 1@<2;");
        t.streetFault(1, "street 9;burns min @;");
        t.streetFault(1, "street 9;burns min(1@);");
        t.streetFault(1, "street 9;burns max(1,2@,3);");
        t.streetFault(1, "street 9;burns 1234@5;");
        t.streetFault(1, "street 9;burns@1;");
        t.streetFault(1, "street 9;believes 1@;");
        t.streetFault(1, "street 9;believes 1<2@<3;");
        t.streetFault(1, "street 9;believes all @all;");
        t.streetFault(1, "street 9;believes all and @;");
        t.streetFault(1, "street 9;believes [all@;");
        t.streetFault(1, "street 9;believes (@all);");
        t.streetFault(1, "street 9;believes 1<2@or all;");
        t.streetFault(1, "street 9;believes not@1<2;");
        t.streetFault(1, "street 9;believes not @");
    }

    private static void staying(Due t) {
        t.anew();
        t.street(L + "tallow 50;", 4);
        t.x.light(0, 9);
        t.x.hours(3);
        t.tape(0, 1, 1);
        t.due("see()", 1, t.x.see());
        t.due("status(1)", 0, t.x.status(1));
        t.streetFault(1, "street 2;@x");
        t.due("status(1)", 1, t.x.status(1));
        int[] stays = {9, 1, 1, 0, 3, 41, 1, 1, 0, 1, 2};
        for (int what = 0; what < stays.length; what++) {
            t.due("has(" + what + ") behind a fault", stays[what], t.x.has(what));
        }
        t.due("the tape goes with a fault", false, t.x.end(1));
        t.due("fault(2)", -1, t.x.fault(2));
        t.due("fault(-1)", -1, t.x.fault(-1));
        t.x.seed(7);
        t.x.hours(9);
        t.due("kept", 1, t.x.has(8));
        t.street(L, 3);
        int[] anew = {9, 1, 1, 0, 0, 100, 0, 0, 0, 0, 0};
        for (int what = 0; what < anew.length; what++) {
            t.due("has(" + what + ") of a second street", anew[what], t.x.has(what));
        }
        t.due("fault(0)", 0, t.x.fault(0));
        t.due("fault(1)", -1, t.x.fault(1));
    }
}
