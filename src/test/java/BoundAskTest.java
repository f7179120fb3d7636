/** Terms IV and promises 33 to 36: the bounds of what a QUESTION tells, and of AN IMAGE. */
final class BoundAskTest {
    private static final String EIGHT = "street 30;person p at 0 trust 0;person q at 29 trust 9;lie a of p;lie b of q;lie c of p;lie d of q;"
            + "lie e of p;lie f of q;lie g of p;lie h of q;tallow 999;burns 1;";

    public static void main(String[] args) {
        Due t = new Due();
        firstAndLast(t);
        often(t);
        totalNotHeld(t);
        withoutLies(t);
        wax(t);
        glow(t);
        glowOfAnotherStreet(t);
        notLit(t);
        litAndBelieved(t);
        numbers(t);
        limits(t);
        longest(t);
        withFault(t);
        withoutStreet(t);
        pairs(t);
        imageParts(t);
        imageSizes(t);
        check(t);
        octets(t);
        onEdges(t);
        onFull(t);
        onPairs(t);
        onSizes(t);
        onOther(t);
        onForgets(t);
        t.close();
    }

    private static void lightAll(Due t) {
        for (int l = 0; l < 8; l++) {
            t.x.light(l, 10 + l);
        }
    }

    private static void firstAndLast(Due t) {
        t.sentence("IV. first TEST, last TEST (the first, the last LIE for which it holds) .. 33. NONE .. when it holds for none");
        t.street(EIGHT, 13);
        t.ask("first all", 0);
        t.ask("last all", 7);
        for (int l = 0; l < 8; l++) {
            t.ask("first number=" + l, l);
            t.ask("last number=" + l, l);
        }
        t.ask("first number>7", -1);
        t.ask("last number>7", -1);
        t.ask("first not all", -1);
        t.ask("last not all", -1);
        t.ask("last number<1", 0);
        t.ask("first number>6", 7);
    }

    private static void often(Due t) {
        t.sentence("IV. often TEST (for how many)");
        t.street(EIGHT, 13);
        t.ask("often all", 8);
        t.ask("often not all", 0);
        t.ask("often all", 8);
        t.ask("often number=7", 1);
        t.ask("often number>0", 7);
    }

    private static void totalNotHeld(Due t) {
        t.sentence("IV. total SUM (of all together, not held)");
        t.street(EIGHT, 13);
        t.ask("total 9999*9999", 8000000);
        t.ask("total 0-9999*9999", -8000000);
        t.ask("total 1000*1000-number", 7999972);
        t.ask("total (number-4)*9999*9999", -1000000);
        t.ask("total 0", 0);
    }

    private static void withoutLies(Due t) {
        t.sentence("IV. most SUM, least SUM (0 without LIES) .. 33. NONE of first, last");
        t.street("street 2;person p at 0 trust 5;", 2);
        t.ask("most 7", 0);
        t.ask("least 7", 0);
        t.ask("most 0-7", 0);
        t.ask("total 7", 0);
        t.ask("often all", 0);
        t.ask("first all", -1);
        t.ask("last all", -1);
        t.askFault(1, "most @x");
        t.sentence("IV. most SUM, least SUM (the greatest, the least of all)");
        t.street(EIGHT, 13);
        t.ask("most number", 7);
        t.ask("least number", 0);
        t.ask("most 0-number", 0);
        t.ask("least 0-number", -7);
        t.ask("most 0-1-number", -1);
        t.ask("least 1+number", 1);
        t.ask("most number*(7-number)", 12);
        t.ask("least 3-number*(7-number)", -9);
        t.ask("most 0-9999*9999", -1000000);
        t.ask("least 9999*9999", 1000000);
    }

    private static void wax(Due t) {
        t.sentence("IV. how long the candle of the LIE of that number is: 0 of one that there is not");
        t.street(EIGHT, 13);
        lightAll(t);
        for (int l = 0; l < 8; l++) {
            t.ask("most wax " + l, 10 + l);
        }
        t.ask("most wax 8", 0);
        t.ask("most wax 9", 0);
        t.ask("most wax 29", 0);
        t.ask("most wax 9999", 0);
        t.ask("most wax (9999*9999)", 0);
        t.ask("most wax (0-1)", 0);
        t.ask("most wax (0-9999*9999)", 0);
        t.ask("total wax (number+1)", 98);
        t.street("street 2;person p at 0 trust 5;lie a of p;", 3);
        t.x.light(0, 9);
        t.ask("most wax 0", 9);
        t.ask("most wax 1", 0);
    }

    private static void glow(Due t) {
        t.sentence("IV. how many LIES are lit in the WINDOW of that number: 0 of one that there is not");
        t.street(EIGHT, 13);
        t.ask("most glow 0", 0);
        t.ask("most glow 29", 0);
        lightAll(t);
        t.ask("most glow 0", 4);
        t.ask("most glow 1", 0);
        t.ask("most glow 28", 0);
        t.ask("most glow 29", 4);
        t.ask("most glow 30", 0);
        t.ask("most glow 9999", 0);
        t.ask("most glow (0-1)", 0);
        t.ask("most glow (0-9999*9999)", 0);
        t.ask("total glow place", 32);
        t.x.snuff(7);
        t.x.move(0, 29);
        t.ask("most glow 0", 0);
        t.ask("most glow 29", 7);
        t.x.light(7, 1);
        t.ask("most glow 29", 8);
    }

    private static void glowOfAnotherStreet(Due t) {
        t.sentence("IV. glow: 0 of one that there is not (though another STREET had it)");
        t.street(EIGHT, 13);
        lightAll(t);
        t.ask("most glow 29", 4);
        t.street("street 29;person p at 0 trust 5;lie a of p;", 3);
        t.ask("most glow 29", 0);
        t.ask("most wax 7", 0);
        t.street("street 2;person p at 0 trust 5;lie a of p;", 3);
        t.ask("most glow 2", 0);
    }

    private static void notLit(Due t) {
        t.sentence("IV. inches, told 0 of one that is not lit");
        t.street(EIGHT, 13);
        t.ask("most inches+told", 0);
        t.x.light(3, 2);
        t.x.hours(1);
        t.ask("most inches", 1);
        t.ask("most told", 1);
        t.ask("often inches=0 and told=0", 7);
        t.x.hours(1);
        t.ask("most inches+told", 0);
        t.x.light(3, 9);
        t.x.hours(1);
        t.x.snuff(3);
        t.ask("most inches+told", 0);
    }

    private static void litAndBelieved(Due t) {
        t.sentence("IV. 1 if it is lit, 1 if it is BELIEVED, else 0");
        t.street(EIGHT + "hangs b on a;believes inches>10;", 15);
        t.ask("total lit", 0);
        t.ask("total held", 0);
        lightAll(t);
        t.ask("total lit", 8);
        t.ask("total held", 6);
        t.ask("first lit=0", -1);
        t.ask("last held=0", 1);
        t.ask("most lit+held", 2);
        t.ask("first lit=1 and held=1", 2);
    }

    private static void numbers(Due t) {
        t.sentence("IV. PART: N; number; place; trust; near; hour (their bounds)");
        t.street(EIGHT, 13);
        t.ask("most 9999", 9999);
        t.ask("most 0000", 0);
        t.ask("most 0001", 1);
        t.ask("least number", 0);
        t.ask("most number", 7);
        t.ask("least place", 0);
        t.ask("most place", 29);
        t.ask("least trust", 0);
        t.ask("most trust", 9);
        t.ask("most near", 0);
        t.ask("most hour", 0);
        lightAll(t);
        t.ask("most near", 3);
        t.x.move(1, 1);
        t.ask("least near", 7);
        t.x.move(1, 2);
        t.ask("most near", 3);
        t.x.hours(100);
        t.ask("most hour", 100);
    }

    private static void limits(Due t) {
        t.sentence("I. each sum, difference, product above 10 to the 6 is that, below -10 to the 6 likewise (of a QUESTION)");
        t.street("street 2;person p at 0 trust 5;lie a of p;", 3);
        t.ask("most 1000*1000", 1000000);
        t.ask("most 999*1001", 999999);
        t.ask("most 999*1001+1", 1000000);
        t.ask("most 999*1001+2", 1000000);
        t.ask("most 999*1001+2-2", 999998);
        t.ask("most 1000*1000-0", 1000000);
        t.ask("most 1000*1000-(0-1)", 1000000);
        t.ask("most 1000*1000-1", 999999);
        t.ask("most 1001*1000", 1000000);
        t.ask("most 0-999*1001", -999999);
        t.ask("most 0-999*1001-1", -1000000);
        t.ask("most 0-999*1001-2", -1000000);
        t.ask("most 0-999*1001-2+2", -999998);
        t.ask("most 0-1000*1000+(0-1)", -1000000);
        t.ask("most (0-1001)*1000", -1000000);
        t.ask("most 9999*9999*(9999*9999)", 1000000);
        t.ask("most 9999*9999*(0-9999*9999)", -1000000);
        t.ask("most (0-9999*9999)*(0-9999*9999)", 1000000);
        t.ask("most 9999*9999*9999*9999*9999", 1000000);
        t.ask("often 9999*9999=1000*1000", 1);
        t.ask("most 1000*1000/(0-1)", -1000000);
        t.ask("most (0-1000*1000)/(0-1)", 1000000);
        t.ask("most (0-1)/(1000*1000)", -1);
        t.ask("most 1/(1000*1000)", 0);
        t.ask("most 1/(0-1000*1000)", -1);
    }

    private static void longest(Due t) {
        t.sentence("2. a QUESTION of 1600 bytes, the most that the tape has");
        t.street("street 2;person p at 0 trust 5;lie a of p;", 3);
        t.ask("most  1" + "+1".repeat(796) + " ", 797);
        t.ask("most  2" + "+1".repeat(796) + " ", 798);
        t.ask("most  3" + "+1".repeat(796) + " ", 799);
        t.anew();
        t.street("street 2;person p at 0 trust 5;lie a of p;", 3);
        t.ask("most  10" + "+1".repeat(796), 806);
        t.anew();
        t.street("street 2;person p at 0 trust 5;lie a of p;", 3);
        t.ask("often  1=2" + " or 1=2 ".repeat(198) + "or all", 1);
        t.anew();
        t.street("street 2;person p at 0 trust 5;lie a of p;", 3);
        t.askFault(1, "most 1" + "+1".repeat(795) + "+ @in");
        t.anew();
        t.street("street 2;person p at 0 trust 5;lie a of p;", 3);
        t.askFault(4, "often" + " not not not not not not all or".repeat(50) + " not not not not not not @not");
    }

    private static void withFault(Due t) {
        t.sentence("33. NOTHING with a FAULT (and none is refused)");
        t.street("street 2;person p at 0 trust 5;lie a of p;", 3);
        t.askFault(1, "@");
        t.askFault(1, "\n @");
        t.askFault(1, "@all");
        t.askFault(1, "first@");
        t.askFault(1, "total @all");
        t.askFault(1, "first 7@");
        t.askFault(4, "most ((((((@(");
        for (int what = 0; what < 6; what++) {
            t.due("status(" + what + ")", 0, t.x.status(what));
        }
        t.ask("most 7", 7);
    }

    private static void withoutStreet(Due t) {
        t.sentence("33. NOTHING .. (the tape goes, nothing else is done, fault() stays) without a street");
        for (String text : new String[] {"most 7", "most ?", "", "first all"}) {
            t.tape(text);
            t.due("ask() of " + text, LieCandles.NOTHING, t.x.ask());
            t.due("fault(0)", 0, t.x.fault(0));
            t.due("fault(1)", -1, t.x.fault(1));
            t.due("the tape goes", false, t.x.end(1));
        }
        t.streetFault(2, "street @31;");
        t.tape("most ?");
        t.due("ask()", LieCandles.NOTHING, t.x.ask());
        t.due("fault(0) stays", 2, t.x.fault(0));
        t.due("fault(1) stays", 7, t.x.fault(1));
        t.due("status(1)", 1, t.x.status(1));
    }

    private static int[] image(Due t) {
        int[] bytes = new int[t.x.image()];
        for (int k = 0; k < bytes.length; k++) {
            bytes[k] = t.x.octet(k);
        }
        return bytes;
    }

    private static int[] checked(int... bytes) {
        int[] all = java.util.Arrays.copyOf(bytes, bytes.length + 1);
        int c = 167;
        for (int b : bytes) {
            c = (3 * c + b) % 251;
        }
        all[bytes.length] = c;
        return all;
    }

    private static void dueImage(Due t, int... bytes) {
        int[] want = checked(bytes);
        int[] got = image(t);
        t.due("image()", want.length, got.length);
        for (int k = 0; k < want.length && k < got.length; k++) {
            t.due("octet(" + k + ")", want[k], got[k]);
        }
        t.due("octet(" + got.length + ")", -1, t.x.octet(got.length));
    }

    private static void pairs(Due t) {
        t.sentence("IV. AN IMAGE: HOUR, tallow (two bytes each, the higher first)");
        t.street("street 2;tallow 0;", 2);
        dueImage(t, 0, 0, 0, 0);
        t.x.hours(100);
        t.x.hours(100);
        t.x.hours(55);
        t.x.buy(255);
        dueImage(t, 0, 255, 0, 255);
        t.x.hours(1);
        t.x.buy(1);
        dueImage(t, 1, 0, 1, 0);
        t.x.hours(100);
        t.x.hours(100);
        t.x.hours(55);
        t.x.buy(255);
        dueImage(t, 1, 255, 1, 255);
        t.x.hours(1);
        t.x.buy(1);
        dueImage(t, 2, 0, 2, 0);
        for (int k = 0; k < 4; k++) {
            t.x.hours(100);
        }
        t.x.hours(87);
        t.x.buy(999);
        dueImage(t, 3, 231, 3, 231);
    }

    private static void imageParts(Due t) {
        t.sentence("IV. for each PERSON his WINDOW; for each LIE how long its candle is (0: not lit), for how many HOURS it has been lit");
        t.street("street 30;person p at 0 trust 1;person q at 29 trust 1;lie a of p;lie b of q;lie c of p;tallow 999;burns 0;", 8);
        t.x.light(0, 99);
        t.x.light(1, 1);
        dueImage(t, 0, 0, 3, 131, 0, 29, 99, 0, 1, 0, 0, 0);
        t.x.hours(99);
        t.x.move(0, 29);
        t.x.move(1, 0);
        dueImage(t, 0, 99, 3, 131, 29, 0, 99, 99, 1, 99, 0, 0);
        t.x.hours(1);
        t.x.snuff(0);
        dueImage(t, 0, 100, 3, 230, 29, 0, 0, 0, 1, 99, 0, 0);
    }

    private static void imageSizes(Due t) {
        t.sentence("34. how many bytes (ahead of a street 5, all 0 but the last)");
        t.due("octet(0) ahead of any image", -1, t.x.octet(0));
        dueImage(t, 0, 0, 0, 0);
        t.due("octet(4)", 224, t.x.octet(4));
        t.street("street 2;tallow 0;", 2);
        t.due("image()", 5, t.x.image());
        t.street("street 2;person p at 0 trust 1;", 2);
        t.due("image()", 6, t.x.image());
        t.street("street 2;person p at 0 trust 1;lie a of p;", 3);
        t.due("image()", 8, t.x.image());
        t.street(EIGHT, 13);
        t.due("image()", 23, t.x.image());
        t.street(EIGHT + "person r at 0 trust 1;person s at 0 trust 1;person u at 0 trust 1;person v at 0 trust 1;", 17);
        t.due("image()", 27, t.x.image());
        t.due("octet(26)", true, t.x.octet(26) >= 0);
        t.due("octet(27)", -1, t.x.octet(27));
    }

    private static void check(Due t) {
        t.sentence("IV. last a byte: all ahead from 167 on, c = (3 c + it) mod 251");
        t.street("street 2;tallow 0;", 2);
        boolean least = false;
        boolean most = false;
        for (int tallow = 0; tallow <= 70; tallow++) {
            int[] got = image(t);
            int c = ((((167 * 3) % 251 * 3) % 251 * 3) % 251 * 3 + tallow) % 251;
            t.due("octet(4) of tallow " + tallow, c, got[4]);
            least = least || c == 0;
            most = most || c == 250;
            t.x.buy(1);
        }
        t.due("0 and 250 were among them", true, least && most);
    }

    private static void octets(Due t) {
        t.sentence("35. Byte k of the latest image(); NONE when there is none such");
        t.street("street 2;tallow 7;", 2);
        t.due("octet(0) ahead of any", -1, t.x.octet(0));
        t.x.image();
        int last = t.x.octet(4);
        for (int k : new int[] {-1, 5, 6, 27, 1600, Integer.MIN_VALUE, Integer.MAX_VALUE}) {
            t.due("octet(" + k + ")", -1, t.x.octet(k));
        }
        t.x.buy(9);
        t.due("octet(3) of the latest image", 7, t.x.octet(3));
        t.x.undo();
        t.street(EIGHT, 13);
        t.due("octet(3) of the latest image", 7, t.x.octet(3));
        t.due("octet(4)", last, t.x.octet(4));
        t.due("octet(5)", -1, t.x.octet(5));
        t.x.image();
        t.due("octet(5)", 29, t.x.octet(5));
        t.street("street 2;", 1);
        t.x.image();
        t.due("octet(5) of a shorter image", -1, t.x.octet(5));
    }

    private static final String IMAGED = "street 30;person p at 1 trust 1;lie a of p;lie b of p;";

    private static void on(Due t, boolean taken, int... bytes) {
        int[] all = checked(bytes);
        t.tape(all);
        t.due("on() of " + java.util.Arrays.toString(all), taken, t.x.on());
        t.due("the tape goes", false, t.x.end(1));
    }

    private static void onEdges(Due t) {
        t.sentence("36. (candles, HOURS lit 99 at most, 0 HOURS of one that is not lit; WINDOWS that there are)");
        t.street(IMAGED, 4);
        on(t, true, 0, 0, 0, 0, 29, 99, 99, 1, 0);
        t.due("person(0, 0)", 29, t.x.person(0, 0));
        t.due("lie(0, 1)", 99, t.x.lie(0, 1));
        t.due("lie(0, 2)", 99, t.x.lie(0, 2));
        t.due("lie(1, 1)", 1, t.x.lie(1, 1));
        t.due("lie(1, 2)", 0, t.x.lie(1, 2));
        on(t, true, 0, 0, 0, 0, 0, 0, 0, 1, 99);
        t.due("lie(0, 1)", 0, t.x.lie(0, 1));
        t.due("lie(1, 2)", 99, t.x.lie(1, 2));
        on(t, false, 0, 0, 0, 0, 30, 0, 0, 0, 0);
        on(t, false, 0, 0, 0, 0, 255, 0, 0, 0, 0);
        on(t, false, 0, 0, 0, 0, 0, 100, 0, 0, 0);
        on(t, false, 0, 0, 0, 0, 0, 255, 0, 0, 0);
        on(t, false, 0, 0, 0, 0, 0, 99, 100, 0, 0);
        on(t, false, 0, 0, 0, 0, 0, 99, 255, 0, 0);
        on(t, false, 0, 0, 0, 0, 0, 0, 1, 0, 0);
        on(t, false, 0, 0, 0, 0, 0, 0, 99, 0, 0);
        on(t, false, 0, 0, 0, 0, 0, 0, 0, 100, 0);
        on(t, false, 0, 0, 0, 0, 0, 0, 0, 1, 100);
        on(t, false, 0, 0, 0, 0, 0, 0, 0, 0, 1);
        t.due("status(5)", 11, t.x.status(5));
        t.due("lie(1, 2) stays", 99, t.x.lie(1, 2));
    }

    private static void onFull(Due t) {
        t.sentence("36. The tape is AN IMAGE of this STREET (6 PEOPLE, 8 LIES)");
        t.street(EIGHT + "person r at 0 trust 1;person s at 0 trust 1;person u at 0 trust 1;person v at 0 trust 1;", 17);
        int[] bytes = new int[26];
        for (int k = 4; k < 26; k++) {
            bytes[k] = k;
        }
        on(t, true, bytes);
        for (int p = 0; p < 6; p++) {
            t.due("person(" + p + ", 0)", 4 + p, t.x.person(p, 0));
        }
        for (int l = 0; l < 8; l++) {
            t.due("lie(" + l + ", 1)", 10 + 2 * l, t.x.lie(l, 1));
            t.due("lie(" + l + ", 2)", 11 + 2 * l, t.x.lie(l, 2));
        }
        dueImage(t, bytes);
        bytes[9] = 30;
        on(t, false, bytes);
        bytes[9] = 29;
        bytes[25] = 100;
        on(t, false, bytes);
    }

    private static void onPairs(Due t) {
        t.sentence("36. (HOUR, tallow 999)");
        t.street(IMAGED, 4);
        on(t, true, 3, 231, 3, 231, 0, 0, 0, 0, 0);
        t.due("has(4)", 999, t.x.has(4));
        t.due("has(5)", 999, t.x.has(5));
        on(t, false, 3, 232, 0, 0, 0, 0, 0, 0, 0);
        on(t, false, 4, 0, 0, 0, 0, 0, 0, 0, 0);
        on(t, false, 255, 255, 0, 0, 0, 0, 0, 0, 0);
        on(t, false, 0, 0, 3, 232, 0, 0, 0, 0, 0);
        on(t, false, 0, 0, 4, 0, 0, 0, 0, 0, 0);
        on(t, false, 0, 0, 255, 255, 0, 0, 0, 0, 0);
        t.due("has(4) stays", 999, t.x.has(4));
        on(t, true, 0, 255, 1, 0, 0, 0, 0, 0, 0);
        t.due("has(4)", 255, t.x.has(4));
        t.due("has(5)", 256, t.x.has(5));
        t.due("status(5)", 6, t.x.status(5));
    }

    private static void onSizes(Due t) {
        t.sentence("36. The tape is AN IMAGE of this STREET .. false, refused (5), when it is none");
        t.street(IMAGED, 4);
        on(t, false, 0, 0, 0, 0, 0, 0, 0, 0);
        on(t, false, 0, 0, 0, 0, 0, 0, 0, 0, 0, 0);
        on(t, false, 0, 0, 0, 0);
        on(t, false);
        t.tape();
        t.due("on() of no byte", false, t.x.on());
        int[] good = checked(0, 0, 0, 0, 0, 0, 0, 0, 0);
        for (int off : new int[] {1, 250}) {
            int[] wrong = good.clone();
            wrong[9] = (wrong[9] + off) % 251;
            t.tape(wrong);
            t.due("on() with another last byte", false, t.x.on());
        }
        // A last byte that is only as good mod 251 is another one.
        int[] tall = checked(0, 0, 0, 30, 0, 0, 0, 0, 0);
        for (int tallow = 0; tallow < 251; tallow++) {
            tall = checked(0, 0, 0, tallow, 0, 0, 0, 0, 0);
            if (tall[9] < 5) {
                break;
            }
        }
        tall[9] += 251;
        t.tape(tall);
        t.due("on() with a last byte above 250", false, t.x.on());
        t.due("status(5)", 8, t.x.status(5));
        t.tape(good);
        t.due("on()", true, t.x.on());
        t.due("status(5)", 8, t.x.status(5));
    }

    private static void onOther(Due t) {
        t.sentence("36. false .. without a street, all staying");
        on(t, false, 0, 0, 0, 0);
        t.due("status(5)", 1, t.x.status(5));
        t.street("street 2;", 1);
        on(t, true, 0, 9, 0, 8);
        t.due("has(4)", 9, t.x.has(4));
        t.due("has(5)", 8, t.x.has(5));
        t.sentence("36. all staying");
        t.street(IMAGED + "burns 1;", 5);
        t.x.light(0, 1);
        t.x.hours(2);
        t.x.light(1, 9);
        t.tape(0, 0, 0);
        t.x.see();
        on(t, false, 0, 0, 0, 0, 0, 0, 0, 0, 1);
        int[] stays = {30, 1, 2, 0, 2, 90, 1, 1, 1, 1, 3};
        for (int what = 0; what < stays.length; what++) {
            t.due("has(" + what + ") stays", stays[what], t.x.has(what));
        }
        t.due("lie(1, 1) stays", 9, t.x.lie(1, 1));
    }

    private static void onForgets(Due t) {
        t.sentence("36. true, all is as it tells, nothing is KEPT or can be undone");
        t.street(IMAGED + "burns 1;", 5);
        t.x.light(0, 1);
        t.x.hours(2);
        t.x.light(1, 9);
        t.tape(0, 0, 0);
        t.x.see();
        int[] now = image(t);
        t.tape(now);
        t.due("on()", true, t.x.on());
        int[] want = {30, 1, 2, 0, 2, 90, 1, 1, 0, 1, 0};
        for (int what = 0; what < want.length; what++) {
            t.due("has(" + what + ")", want[what], t.x.has(what));
        }
        t.due("kept(0, 0)", -1, t.x.kept(0, 0));
        t.due("undo()", false, t.x.undo());
        t.due("status(4)", 1, t.x.status(4));
        t.due("lie(0, 1)", 0, t.x.lie(0, 1));
        t.due("lie(1, 1)", 9, t.x.lie(1, 1));
        // What comes then can be undone to here, and is KEPT.
        t.x.hours(10);
        t.due("has(8)", 1, t.x.has(8));
        t.due("kept(0, 0)", 10, t.x.kept(0, 0));
        t.due("undo()", true, t.x.undo());
        t.due("undo()", false, t.x.undo());
        t.due("has(4)", 2, t.x.has(4));
        t.due("has(8)", 0, t.x.has(8));
    }
}
