/** Promise 33: ask, and the sums and tests of Terms I and IV. */
final class AskTest {
    public static void main(String[] args) {
        Due t = new Due();
        withoutStreet(t);
        words(t);
        candles(t);
        arithmetic(t);
        tests(t);
        faults(t);
        withoutLies(t);
        t.close();
    }

    /** HOUR 3; w has 8 inches, x 19, y is not lit, z has 29; w, z are believed. */
    private static void scene(Due t) {
        t.anew();
        t.street("street 6;person a at 1 trust 3;person b at 2 trust 8;person c at 5 trust 5;"
                + "lie w of a;lie x of b;lie y of b;lie z of c;hangs y on w;drafts place+hour;burns 1;believes inches<9 or trust=5;", 12);
        t.x.hours(2);
        t.x.light(0, 9);
        t.x.light(1, 20);
        t.x.light(3, 30);
        t.x.hours(1);
    }

    private static void withoutStreet(Due t) {
        t.streetFault(1, "street @x");
        t.tape("often all");
        t.due("ask() without a street", LieCandles.NOTHING, t.x.ask());
        t.due("fault(0) stays", 1, t.x.fault(0));
        t.due("fault(1) stays", 7, t.x.fault(1));
        t.due("the tape goes", false, t.x.end(1));
    }

    private static void words(Due t) {
        String[] all = {"number", "inches", "trust", "near", "draft", "told", "place", "lit", "held", "hour"};
        int[][] values = {{0, 1, 2, 3}, {8, 19, 0, 29}, {3, 8, 8, 5}, {1, 1, 2, 0}, {4, 5, 5, 8}, {1, 1, 0, 1}, {1, 2, 2, 5}, {1, 1, 0, 1},
            {1, 0, 0, 1}, {3, 3, 3, 3}};
        for (int k = 0; k < all.length; k++) {
            scene(t);
            long sum = 0;
            long most = values[k][0];
            long least = values[k][0];
            for (int l = 0; l < 4; l++) {
                sum += values[k][l];
                most = Math.max(most, values[k][l]);
                least = Math.min(least, values[k][l]);
                t.ask("first number=" + l + " and " + all[k] + "=" + values[k][l], l);
                t.ask("most " + all[k] + "*min(1,max(0,1-(number-" + l + ")*(number-" + l + ")))", values[k][l]);
            }
            t.ask("total " + all[k], sum);
            t.ask("most " + all[k], most);
            t.ask("least " + all[k], least);
        }
    }

    private static void candles(Due t) {
        scene(t);
        t.ask("most wax 0", 8);
        t.ask("most wax 2", 0);
        t.ask("most wax 3", 29);
        t.ask("most wax 4", 0);
        t.ask("least wax(0-1)", 0);
        t.ask("total wax number", 56);
        t.ask("total wax 1+1", 80);
        t.ask("most glow 1", 1);
        t.ask("most glow 2", 1);
        t.ask("most glow 3", 0);
        t.ask("most glow 6", 0);
        t.ask("most glow 9999", 0);
        t.ask("most glow (0-1)", 0);
        t.ask("total glow place", 4);
        t.ask("most wax glow place", 19);
        t.ask("most wax wax 9", 8);
        t.ask("most wax wax wax 9", 0);
    }

    private static void arithmetic(Due t) {
        scene(t);
        t.ask("most 2+3*4", 14);
        t.ask("most 2-3-4", -5);
        t.ask("most 100/7*7", 98);
        t.ask("most 7/2", 3);
        t.ask("most (0-7)/2", -4);
        t.ask("most 7/(0-2)", -4);
        t.ask("most (0-7)/(0-2)", 3);
        t.ask("most (0-8)/2", -4);
        t.ask("most 7/0", 0);
        t.ask("most (0-7)/0", 0);
        t.ask("most 0/7", 0);
        t.ask("most 1000*1000", 1000000);
        t.ask("most 1001*1000", 1000000);
        t.ask("most 9999*9999-1", 999999);
        t.ask("least 0-9999*9999-9", -1000000);
        t.ask("least (0-9999)*9999", -1000000);
        t.ask("most 9999*9999*(0-9999*9999)", -1000000);
        t.ask("most 1000*1000+9", 1000000);
        t.ask("total 1000*1000", 4000000);
        t.ask("total 0-1000*1000", -4000000);
        t.ask("most min(3,4)*10+max(3,4)", 34);
        t.ask("most min(0-3,0-4)", -4);
        t.ask(" \nmost\n0009 ", 9);
        t.ask("least 2*(3+4)", 14);
    }

    private static void tests(Due t) {
        scene(t);
        t.ask("first all", 0);
        t.ask("last all", 3);
        t.ask("often all", 4);
        t.ask("first number>3", -1);
        t.ask("last number>3", -1);
        t.ask("often number>3", 0);
        t.ask("last number<3", 2);
        t.ask("first not all", -1);
        t.ask("often not number=1", 3);
        t.ask("often not not number=1", 1);
        t.ask("often not number=1 and number<3", 2);
        t.ask("often not[number=1 and number<3]", 3);
        t.ask("often number=0 or all and number=1", 2);
        t.ask("often number=1 and all or number=0", 2);
        t.ask("often[number=0 or all]and number=1", 1);
        t.ask("often number=0 or number=1 or number=3", 3);
        t.ask("first held=0 and lit=1", 1);
    }

    private static void faults(Due t) {
        scene(t);
        t.askFault(1, "@");
        t.askFault(1, "  @");
        t.askFault(1, "@all");
        t.askFault(1, "@firsts all");
        t.askFault(1, "@street 2;");
        t.askFault(1, "first@");
        t.askFault(1, "first number@");
        t.askFault(1, "first @trusts=1");
        t.askFault(1, "first all@;");
        t.askFault(1, "first all @all");
        t.askFault(1, "total @all");
        t.askFault(1, "total 1 @2");
        t.askFault(1, "total 1@<2");
        t.askFault(1, "total@1");
        t.askFault(1, "total 1234@5");
        t.askFault(1, "total wax@");
        t.askFault(1, "total wax@1");
        t.askFault(1, "total wax @+1");
        t.askFault(1, "total @first");
        t.askFault(1, "total min(1@");
        t.ask("total ((((((1))))))", 4);
        t.askFault(4, "total ((((((@(1)))))))");
        t.ask("total wax wax wax glow glow glow 1+wax wax wax wax wax wax 9", 64);
        t.askFault(4, "total wax wax wax glow glow glow @wax 1");
        t.askFault(4, "total wax wax wax glow glow glow @(1)");
        t.askFault(4, "first not[not[not[@wax 1=1]]]");
        t.askFault(4, "first not[not[not[min@(1,2)=1]]]");
        t.ask("first not[not[[wax 1+wax 1=1]]]", -1);
        t.askFault(4, "first not not not not not not @not all");
        t.ask("often not not not not not not all and not not not not not not all", 4);
        t.due("no fault is refused", 0, t.x.status(1));
    }

    private static void withoutLies(Due t) {
        t.street("street 2;person a at 0 trust 1;", 2);
        t.ask("first all", -1);
        t.ask("last all", -1);
        t.ask("often all", 0);
        t.ask("total 7", 0);
        t.ask("most 7", 0);
        t.ask("least 7", 0);
        t.askFault(1, "least @x");
    }
}
