/** Terms I and IV: where each FAULT of a text is told; a method for each sentence. */
final class BoundFaultTest {
    private static final String P = "street 9;person p at 1 trust 1;";
    private static final String L = P + "lie l of p;";
    private static final String[] TOKENS = ("street 9 ; person ann at 8 trust 9 ; lie big of ann ; lie low of ann ; hangs low on big ; "
            + "light low at 999 for 99 ; tallow 999 ; gust 100 ; drafts min ( hour , place ) * 2 / 3 - ( 1 + 0 ) ; "
            + "burns max ( 1 , near ) + inches - draft * told ; believes not [ 1 < 2 or all and trust > 3 ] and hour = 0 ;").split(" ");
    private static final String[] ASKED = ("first not [ number < 1 or wax ( 2 ) > glow wax 3 ] and min ( inches , told ) = "
            + "max ( trust , 4 ) - hour * 2 / place").split(" ");

    public static void main(String[] args) {
        Due t = new Due();
        tooSoon(t);
        noSuchText(t);
        glued(t);
        askedTooSoon(t);
        askedNoSuchText(t);
        askedGlued(t);
        wholeWords(t);
        fifthDigit(t);
        seventhLetter(t);
        withoutStatement(t);
        numbers(t);
        namesThere(t);
        namesNoneOfThem(t);
        hanging(t);
        openOnes(t);
        notEnds(t);
        waxEnds(t);
        tooMany(t);
        anyAsTheSixtyFirst(t);
        firstAlong(t);
        behindQuestion(t);
        t.close();
    }

    private static String upTo(String[] tokens, int count) {
        StringBuilder b = new StringBuilder();
        for (int k = 0; k < count; k++) {
            b.append(k > 0 ? " " : "").append(tokens[k]);
        }
        return b.toString();
    }

    private static String from(String[] tokens, int first) {
        StringBuilder b = new StringBuilder();
        for (int k = first; k < tokens.length; k++) {
            b.append(" ").append(tokens[k]);
        }
        return b.toString();
    }

    private static boolean isLetter(char c) {
        return c >= 'a' && c <= 'z';
    }

    private static boolean isDigit(char c) {
        return c >= '0' && c <= '9';
    }

    private static void tooSoon(Due t) {
        t.sentence("I. FAULT 1 at the text's length, if it ends too soon");
        int statements = 0;
        for (int k = 1; k <= TOKENS.length; k++) {
            String text = upTo(TOKENS, k);
            t.anew();
            if (TOKENS[k - 1].equals(";")) {
                statements++;
                t.street(text, statements);
                t.street(text + " \n", statements);
            } else {
                t.streetFault(1, text + "@");
                t.streetFault(1, text + " \n @");
            }
        }
    }

    private static void noSuchText(Due t) {
        t.sentence("I. FAULT 1 the first byte with which no such text goes on");
        for (int k = 0; k < TOKENS.length; k++) {
            t.anew();
            for (String sign : new String[] {"?", "\u00e9", "\u0000", "A"}) {
                t.streetFault(1, upTo(TOKENS, k) + (k > 0 ? " " : "") + "@" + sign + from(TOKENS, k));
            }
        }
    }

    /** Without the blank between a word and a number the second one is where no such text goes on. */
    private static void glued(Due t) {
        t.sentence("I. (words and numbers side by side need one)");
        for (int k = 1; k < TOKENS.length; k++) {
            char a = TOKENS[k - 1].charAt(0);
            char b = TOKENS[k].charAt(0);
            if (isLetter(a) && isDigit(b) || isDigit(a) && isLetter(b)) {
                t.anew();
                t.streetFault(1, upTo(TOKENS, k) + "@" + TOKENS[k] + from(TOKENS, k + 1));
            }
        }
    }

    private static void askedTooSoon(Due t) {
        t.sentence("IV. FAULT 1 as in I (at the text's length, if it ends too soon)");
        for (int k = 0; k <= ASKED.length; k++) {
            String text = upTo(ASKED, k);
            t.anew();
            t.street("street 9;", 1);
            // Behind the "]", the ")" and the three PARTS of the last PRODUCT the QUESTION could end.
            if (k == 16 || k == 30 || k == 32 || k == 34 || k == 36) {
                t.ask(text, -1);
                t.ask(text + " \n", -1);
            } else {
                t.askFault(1, text + "@");
                t.askFault(1, text + " @");
            }
        }
    }

    private static void askedNoSuchText(Due t) {
        t.sentence("IV. FAULT 1 as in I (the first byte with which no such text goes on)");
        for (int k = 0; k < ASKED.length; k++) {
            t.anew();
            t.street("street 9;", 1);
            for (String sign : new String[] {"?", "\u00e9", ";", "zz"}) {
                t.askFault(1, upTo(ASKED, k) + (k > 0 ? " " : "") + "@" + sign + from(ASKED, k));
            }
        }
    }

    private static void askedGlued(Due t) {
        t.sentence("IV. FAULT 1 as in I (words and numbers side by side need a blank)");
        t.street("street 9;", 1);
        t.askFault(1, "most wax@3");
        t.askFault(1, "most glow@3");
        t.askFault(1, "often 1=2@or all");
        t.askFault(1, "often not@1=2");
        t.askFault(1, "most@7");
        t.askFault(1, "most 7@inches");
        t.askFault(1, "most inches@7");
    }

    private static void wholeWords(Due t) {
        t.sentence("I. FAULT 1 (words and numbers whole, at their first byte)");
        t.streetFault(1, "@streetx 9;");
        t.streetFault(1, "@stree 9;");
        t.streetFault(1, "@streetstreet 9;");
        t.streetFault(1, "street 9;@persons p at 1 trust 1;");
        t.streetFault(1, "street 9;@perso");
        t.streetFault(1, "street 9;@17;");
        t.streetFault(1, "street 9;@12345;");
        t.streetFault(1, "street 9;person p @att 1 trust 1;");
        t.streetFault(1, "street 9;person p at @one trust 1;");
        t.streetFault(1, "street 9;person p at 1 @trusts 1;");
        t.streetFault(1, "street 9;person p at 1 @1 trust 1;");
        t.streetFault(1, P + "lie l @off p;");
        t.streetFault(1, L + "hangs l @one l;");
        t.streetFault(1, "street 9;drafts @hours;");
        t.streetFault(1, "street 9;drafts 1 @12345;");
        t.streetFault(1, "street 9;believes @alls;");
        t.streetFault(1, "street 9;believes all @andall;");
        t.streetFault(1, "street 9;believes all @orall;");
        t.streetFault(1, "street 9;believes @notall;");
        t.streetFault(1, "street 9;burns @minimum(1,2);");
        t.sentence("IV. FAULT 1 an unknown word at its first byte");
        t.street("street 9;", 1);
        t.askFault(1, "@mostly 1");
        t.askFault(1, "@mos");
        t.askFault(1, "@7 most");
        t.askFault(1, "most @num");
        t.askFault(1, "most @numbers");
        t.askFault(1, "most wax @waxes 1");
        t.askFault(1, "often number=1 @orr number=2");
        t.askFault(1, "@street 9;");
        t.askFault(1, "@inches");
    }

    private static void fifthDigit(Due t) {
        t.sentence("I. FAULT 1 (where a number is asked, a 5th digit at itself)");
        t.streetFault(1, "street 0000@2;");
        t.streetFault(1, "street 1234@5678;");
        t.streetFault(1, "street 9;person p at 0000@1 trust 1;");
        t.streetFault(1, "street 9;person p at 1 trust 0000@1;");
        t.streetFault(1, L + "light l at 0000@1 for 1;");
        t.streetFault(1, L + "light l at 1 for 0000@1;");
        t.streetFault(1, "street 9;tallow 0000@1;");
        t.streetFault(1, "street 9;gust 0000@1;");
        t.streetFault(1, "street 9;drafts 0000@1;");
        t.streetFault(1, "street 9;drafts 1+(0000@1;");
        t.street("street 0009;person p at 0001 trust 0001;lie l of p;light l at 0001 for 0001;tallow 0001;gust 0001;drafts 0001;", 7);
        t.sentence("IV. FAULT 1 as in I (a 5th digit at itself)");
        t.street("street 9;", 1);
        t.askFault(1, "most 0000@1");
        t.askFault(1, "most wax 1234@5");
    }

    private static void seventhLetter(Due t) {
        t.sentence("I. FAULT 1 (where a NAME is asked, an OWN WORD so, a 7th letter at itself)");
        t.streetFault(1, "street 9;person abcdef@g");
        t.streetFault(1, "street 9;person abcdef@ghijklm at 1 trust 1;");
        t.streetFault(1, P + "lie abcdef@g of p;");
        t.streetFault(1, P + "lie l of pppppp@p;");
        t.streetFault(1, L + "light llllll@l at 1 for 1;");
        t.streetFault(1, "street 9;person @believes at 1 trust 1;");
        t.streetFault(1, "street 9;person believ@e at 1 trust 1;");
        t.streetFault(1, "street 9;person believ@esx at 1 trust 1;");
        t.streetFault(1, "street 9;person @street at 1 trust 1;");
        t.streetFault(1, "street 9;person street@s at 1 trust 1;");
    }

    private static void withoutStatement(Due t) {
        t.sentence("4. one without a STATEMENT has FAULT 1 at its length");
        t.streetFault(1, "@");
        t.streetFault(1, " @");
        t.streetFault(1, "\n\n\n@");
        t.streetFault(1, " ".repeat(1600) + "@");
    }

    private static void numbers(Due t) {
        t.sentence("I. FAULT 2 a number that can't be, at it");
        t.streetFault(2, "street  @0031");
        t.streetFault(2, "street @1x");
        t.streetFault(2, "street @31");
        t.streetFault(2, "street 9;person p at @9");
        t.streetFault(2, "street 9;person p at 1 trust @10 ?");
        t.streetFault(2, L + "light l at @1000");
        t.streetFault(2, L + "light l at 1 for @0");
        t.streetFault(2, L + "light l at 1 for @100");
        t.streetFault(2, "street 9;tallow @1000");
        t.streetFault(2, "street 9;gust @0101");
    }

    private static void namesThere(Due t) {
        t.sentence("I. FAULT 3 a NAME to be given that is there already, at it");
        t.streetFault(3, P + "person  @p");
        t.streetFault(3, L + "person @l at 99");
        t.streetFault(3, L + "lie @l");
        t.streetFault(3, L + "lie @p?");
    }

    private static void namesNoneOfThem(Due t) {
        t.sentence("I. FAULT 3 one that is none of what is asked, at it");
        t.streetFault(3, L + "lie m of  @l");
        t.streetFault(3, L + "hangs @p");
        t.streetFault(3, L + "hangs @first");
        t.streetFault(3, L + "lie m of p;hangs m on @p");
        t.streetFault(3, L + "light @p");
        t.streetFault(3, L + "light @m at 9999");
    }

    private static void hanging(Due t) {
        t.sentence("I. FAULT 3 a LIE that hangs already, a second one of hangs that is not told ahead of the first, at it");
        String m = L + "lie m of p;";
        t.streetFault(3, m + "hangs m on l;hangs  @m");
        t.streetFault(3, m + "hangs m on l;hangs @m on m;");
        t.streetFault(3, m + "hangs m on  @m");
        t.streetFault(3, m + "hangs l on @m?");
        t.streetFault(3, m + "hangs l on @l");
    }

    private static void openOnes(Due t) {
        t.sentence("I. FAULT 4 the 7th of ( [ not that is open at once, at it");
        t.street("street 9;drafts " + "(".repeat(6) + "1" + ")".repeat(6) + "+" + "(".repeat(6) + "1" + ")".repeat(6) + ";", 2);
        t.street("street 9;drafts " + "min(1,2)+max((1),(2))+".repeat(8) + "((((((1))))));", 2);
        t.streetFault(4, "street 9;drafts " + "min(1,2)+max((1),(2))+".repeat(8) + "((((((@(1))))));");
        t.streetFault(4, "street 9;drafts ((((((@(1");
        t.streetFault(4, "street 9;burns (1)+(((((( @(");
        t.streetFault(4, "street 9;burns min(min(min(min(min(min(1,min@(1");
        t.streetFault(4, "street 9;burns min(1,min(1,min(1,min(1,min(1,min(1,max @(1");
        t.streetFault(4, "street 9;burns (max(1,(max(1,(max(1,@(1");
        t.street("street 9;believes [[[[[[all]]]]]] and [[[[[[all]]]]]];", 2);
        t.streetFault(4, "street 9;believes [[[[[[ @[");
        t.streetFault(4, "street 9;believes [[[[[[@(1");
        t.streetFault(4, "street 9;believes [[[[[[@not all");
        t.streetFault(4, "street 9;believes not[not[not[@[");
        t.streetFault(4, "street 9;believes not[not[not[@(1");
        t.streetFault(4, "street 9;believes not[not[not[1<2 and 1<min@(1");
        t.streetFault(4, "street 9;believes not[not[not[1<2 and @not");
        t.streetFault(4, "street 9;believes not[not[not (@(");
        t.sentence("IV. FAULT 4 the 7th of ( [ not wax glow that is open at once, at it");
        t.street("street 9;", 1);
        t.ask("most ((((((1))))))+((((((1))))))", 0);
        t.askFault(4, "most ((((((@(1");
        t.askFault(4, "most ((((((@wax 1");
        t.askFault(4, "most ((((((@glow 1");
        t.askFault(4, "most wax glow wax glow wax glow @wax");
        t.askFault(4, "most wax glow wax glow wax glow @glow");
        t.askFault(4, "most wax glow wax glow wax glow @(");
        t.askFault(4, "most wax glow wax glow wax glow min@(");
        t.askFault(4, "often not[wax(glow(min@(");
        t.askFault(4, "often [[[[[[@[");
        t.askFault(4, "often not not not not not not @not");
        t.askFault(4, "often not not not not not not @[");
        t.askFault(4, "often not not not not not not @(");
        t.askFault(4, "often not not not not not not @wax");
    }

    private static void notEnds(Due t) {
        t.sentence("I. FAULT 4 (not until its FACT ends)");
        t.street("street 9;believes not not not not not not all and not not not not not not 1<2 or not not not not not not all;", 2);
        t.street("street 9;believes not not not not not not 1<2 and ((((((1))))))<2;", 2);
        t.street("street 9;believes not not not not not(1)<(2) and not[not[not[all]]];", 2);
        t.streetFault(4, "street 9;believes not not not not not (@(1)<2;");
        t.streetFault(4, "street 9;believes not not not not not not 1<@(2)");
        t.streetFault(4, "street 9;believes not not not not not not 1+min@(2");
    }

    private static void waxEnds(Due t) {
        t.sentence("IV. FAULT 4 (not until its FACT, wax, glow until its PART ends)");
        t.street("street 9;", 1);
        t.ask("most wax glow wax glow wax glow 1+wax glow wax glow wax glow 1*glow glow glow glow glow glow 1", 0);
        t.ask("most wax wax wax wax wax(1)+((((((1))))))", 0);
        t.ask("most wax glow wax glow min(wax 1,glow 2)", 0);
        t.ask("often not not not wax wax wax 1=wax wax wax 2 and wax wax wax wax wax wax 1=2", 0);
        t.askFault(4, "most wax wax wax wax wax(@(1");
        t.askFault(4, "most wax glow wax glow min(wax 1,glow @wax 2");
        t.askFault(4, "often not not not wax wax wax 1=wax wax wax @wax 2");
    }

    private static void tooMany(Due t) {
        t.sentence("I. FAULT 5 one too many of a kind (a second drafts, burns, believes, too), at its first byte");
        StringBuilder b = new StringBuilder("street 9;");
        for (int k = 0; k < 6; k++) {
            b.append("person p").append((char) ('a' + k)).append(" at 1 trust 1;");
        }
        t.streetFault(5, b + "  @person");
        t.streetFault(5, b + "@person pa at 99");
        t.streetFault(5, b + "@person;");
        t.streetFault(1, b + "@personpa at 99");
        for (int k = 0; k < 8; k++) {
            b.append("lie l").append((char) ('a' + k)).append(" of pa;");
        }
        t.streetFault(5, b + " @lie");
        t.streetFault(5, b + "@lie la of x;");
        t.streetFault(1, b + "@lies");
        b.append("light la at 0 for 1;".repeat(16));
        t.streetFault(5, b + "\n@light");
        t.streetFault(5, b + "@light x at 9999");
        t.streetFault(1, b + "@lightx at 9999");
        t.streetFault(5, "street 9;drafts 0; @drafts");
        t.streetFault(5, "street 9;burns 0; @burns(");
        t.streetFault(5, "street 9;believes all; @believes ]");
        t.streetFault(1, "street 9;@draft 0;");
    }

    private static void anyAsTheSixtyFirst(Due t) {
        t.sentence("I. FAULT 5 a 61st STATEMENT (whatever stands there), at its first byte");
        String full = "street 9;" + "tallow 1;".repeat(59);
        t.street(full + "\n ", 60);
        for (String any : new String[] {"tallow 1;", "street 9;", "person", "x", "7", "12345", ";", "]", "\u00ff", "\t", "A", "abcdefghij"}) {
            t.anew();
            t.streetFault(5, full + "@" + any);
            t.streetFault(5, full + " \n @" + any);
        }
        // A 60th STATEMENT is told by its own FAULT yet.
        String less = "street 9;" + "tallow 1;".repeat(58);
        t.streetFault(1, less + "@?");
        t.streetFault(1, less + "tallow 1@");
        t.streetFault(1, less + "tallow 1@?;");
    }

    private static void firstAlong(Due t) {
        t.sentence("I. FAULTS, the first along the text");
        t.streetFault(2, "street @1;person ?");
        t.streetFault(1, "street 9;@?street 1;");
        t.streetFault(3, P + "person @p at 9 trust 10 ?");
        t.streetFault(2, P + "person q at @9 trust 10;");
        t.streetFault(2, P + "person q at 8 trust @10?");
        t.streetFault(4, "street 9;drafts ((((((@(inches");
        t.streetFault(1, "street 9;drafts ((((((@inches(");
        t.streetFault(5, "street 9;drafts 1;@drafts ((((((((;");
        t.streetFault(3, L + "hangs @p on x;");
        t.streetFault(3, L + "hangs l on @x?");
        t.streetFault(1, L + "hangs l @of x;");
    }

    private static void behindQuestion(Due t) {
        t.sentence("IV. FAULT 1 what stands behind it, too");
        t.street("street 9;person p at 1 trust 1;lie l of p;", 3);
        t.ask("most 7", 7);
        t.ask("most 7 \n ", 7);
        t.askFault(1, "most 7@;");
        t.askFault(1, "most 7 \n @;");
        t.askFault(1, "most 7 @8");
        t.askFault(1, "most 7@)");
        t.askFault(1, "most 7@=7");
        t.askFault(1, "most inches @most");
        t.askFault(1, "first all@]");
        t.askFault(1, "first 1=1@=1");
        t.askFault(1, "first 1=1 @all");
        t.askFault(1, "first all@\u0000");
    }
}
