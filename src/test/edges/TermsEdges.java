/** The edges that the terms name, and that an object is good for 512 calls. */
final class TermsEdges {
    private static final int NONE = -1;
    /** Ten dishes of which any two share a or b or c, and no stuff is in more than seven; hours 0 .. 9. */
    static final String TEN = "ab1;ab1+1;ab1+2;ab1+3;bc1+4;bc1+5;bc1+6;ac1+7;ac1+8;ac1+9";
    static final String SIX = "G-;G-;G-;G-;G-;G-";

    private TermsEdges() {
    }

    static void all() {
        use();
        numbers();
        kitchenText();
        dishText();
        guestText();
        lawRanges();
        shareAndTimes();
        storesAndHeat();
        fewDishes();
        ruleText();
        operators();
        things();
        qualities();
        joy();
        hungry();
        tableAndMenus();
        rows();
        refusals();
        textsRead();
        rowsLeft();
        rowsLeftOn();
    }

    private static void use() {
        Trial t = Trial.ofUse("An object is used for at most 512 calls after it has been made; what later calls answer is free");
        t.kitchen("ab10;bc5H;cd7;ad9+3;e3;Ga-c;Gbd-");
        while (t.calls() < 505) t.ask("back()", NONE);
        t.tell("longest()", 4, 0, 1, 2, 3);
        t.ask("serve(4)", 1);
        t.isSpent();
    }

    private static void numbers() {
        Trial.ofTerms("STUFFS a .. h (numbers 0 .. 7)").kitchen("a1;h2;abcdefgh3")
            .ask("dish(0, 0)", 1).ask("dish(1, 0)", 128).ask("dish(2, 0)", 255)
            .fault("kitchen()", "i1", 0).fault("kitchen()", "`1", 0).fault("kitchen()", "ai1", 1)
            .fault("kitchen()", "aj1", 1).fault("kitchen()", "az1", 1).fault("kitchen()", "j1", 0).fault("kitchen()", "aA1", 1)
            .ask("store(0, 0)", 99).ask("store(7, 0)", 99).outside("store(*, 0)", NONE, 0, 7);
        Trial t = Trial.ofTerms("of each a STORE 0 .. 99 (at first 99)");
        for (int s = 0; s < 8; s++) {
            t.ask("store(" + s + ", 0)", 99).ask("store(" + s + ", 99)", 0);
            t.outside("store(" + s + ", *)", NONE, 0, 99);
        }
        Trial.ofTerms("DISHES 0 .. (at most 10; written A .. J)").kitchen("a1;a1;a1;a1;a1;a1;a1;a1;a1")
            .fault("menu(0)", "J", 0).none("dish(9, 0)").kitchen("h7").ask("count(0)", 10).ask("dish(9, 0)", 128)
            .menu(0, "J").fault("menu(1)", "K", 0).fault("menu(1)", "@", 0).menu(1, "A")
            .fault("kitchen()", "a1", 0).none("dish(10, 0)").ask("count(0)", 10);
        Trial.ofTerms("STUFFS (a set, one at least)").fault("kitchen()", "1", 0).fault("kitchen()", "H1", 0)
            .fault("kitchen()", "+1", 0).kitchen("c1;abcdefgh1").ask("dish(0, 0)", 4).ask("dish(1, 0)", 255);
        Trial.ofTerms("COST 0 .. 99").kitchen("a0;a00;a9;a09;a10;a99").ask("dish(0, 1)", 0).ask("dish(1, 1)", 0)
            .ask("dish(2, 1)", 9).ask("dish(3, 1)", 9).ask("dish(4, 1)", 10).ask("dish(5, 1)", 99)
            .fault("kitchen()", "a100", 3).fault("kitchen()", "a-1", 1);
        Trial.ofTerms("HOT or not").kitchen("a1H;a1").ask("dish(0, 2)", 1).ask("dish(1, 2)", 0);
        Trial.ofTerms("HOURS 0 .. 9").kitchen("a1+0;a1+9;a1").ask("dish(0, 3)", 0).ask("dish(1, 3)", 9)
            .ask("dish(2, 3)", 0).fault("kitchen()", "a1+10", 4);
        Trial.ofTerms("GUESTS 0 .. (at most 6)").kitchen("G-;G-;G-;G-;G-").ask("count(1)", 5).none("guest(5, 0)")
            .kitchen("Gh-g").ask("count(1)", 6).ask("guest(5, 0)", 128).ask("guest(5, 1)", 64)
            .fault("kitchen()", "G-", 0).none("guest(6, 0)").ask("count(1)", 6);
        Trial.ofTerms("STUFFS it LOVES, STUFFS it BARS").kitchen("G-;Gabcdefgh-;G-abcdefgh;Gah-bg")
            .ask("guest(0, 0)", 0).ask("guest(0, 1)", 0).ask("guest(1, 0)", 255).ask("guest(1, 1)", 0)
            .ask("guest(2, 0)", 0).ask("guest(2, 1)", 255).ask("guest(3, 0)", 129).ask("guest(3, 1)", 66);
    }

    private static void kitchenText() {
        String five = "abcdefgh10H+1;".repeat(5);
        Trial.ofTerms("THE KITCHEN is a text of at most 76 signs").fault("kitchen()", five + "abcd11;", 76)
            .read("kitchen()", five + "abcd11", 6).ask("dish(5, 1)", 11);
        Trial.ofTerms("LINES with ; between").fault("kitchen()", ";", 0).fault("kitchen()", "a1;", 3)
            .fault("kitchen()", ";a1", 0).fault("kitchen()", "a1;;b1", 3).fault("kitchen()", "a1,b1", 2)
            .fault("kitchen()", "a1 ;b1", 2).fault("kitchen()", "a1; b1", 3).kitchen("a1;b1").ask("count(0)", 2);
        Trial.ofTerms("what they tell comes behind what there is").kitchen("a1;Ga-").kitchen("Gb-;b2;c3;Gc-")
            .ask("dish(0, 1)", 1).ask("dish(1, 1)", 2).ask("dish(2, 1)", 3).ask("guest(0, 0)", 1)
            .ask("guest(1, 0)", 2).ask("guest(2, 0)", 4);
    }

    private static void dishText() {
        Trial.ofTerms("a DISH: its STUFFS (letters, rising)").kitchen("ab1;ah1;gh1").ask("dish(1, 0)", 129)
            .fault("kitchen()", "aa1", 1).fault("kitchen()", "ba1", 1).fault("kitchen()", "hg1", 1)
            .fault("kitchen()", "abcdefgha1", 8).fault("kitchen()", "abcdefghh1", 8).fault("kitchen()", "A1", 0);
        Trial.ofTerms("COST (1 or 2 digits)").fault("kitchen()", "a", 1).fault("kitchen()", "aH", 1)
            .fault("kitchen()", "a+1", 1).fault("kitchen()", "a123", 3).fault("kitchen()", "a/", 1)
            .fault("kitchen()", "a:", 1).fault("kitchen()", "a1:", 2).kitchen("a1;a12");
        Trial.ofTerms("perhaps H (HOT)").kitchen("a1H;a12H;a1H+2").ask("dish(1, 2)", 1).ask("dish(2, 2)", 1)
            .fault("kitchen()", "a1HH", 3).fault("kitchen()", "a1h", 2).fault("kitchen()", "aH1", 1)
            .fault("kitchen()", "a1H1", 3);
        Trial.ofTerms("perhaps + and a digit (HOURS, else 0)").kitchen("a1+0;a1+9;a1;a1H").ask("dish(1, 3)", 9)
            .ask("dish(2, 3)", 0).ask("dish(3, 3)", 0).fault("kitchen()", "a1+", 3).fault("kitchen()", "a1++1", 3)
            .fault("kitchen()", "a1+55", 4).fault("kitchen()", "a1+5H", 4).fault("kitchen()", "a1+5+5", 4)
            .fault("kitchen()", "a1+H", 3);
    }

    private static void guestText() {
        Trial.ofTerms("or a GUEST: G, letters of STUFFS it LOVES (rising, perhaps none)").kitchen("G-;Gabcdefgh-;Gg-")
            .ask("guest(2, 0)", 64).fault("kitchen()", "Gba-", 2).fault("kitchen()", "Gaa-", 2)
            .fault("kitchen()", "Gi-", 1).fault("kitchen()", "Gj-", 1).fault("kitchen()", "Gaz-", 2).fault("kitchen()", "GG-", 1).fault("kitchen()", "g-", 1)
            .fault("kitchen()", "abG-", 2);
        Trial.ofTerms("-, letters of STUFFS it BARS (rising, perhaps none)").kitchen("G-;G-abcdefgh;G-g")
            .ask("guest(2, 1)", 64).fault("kitchen()", "G-ba", 3).fault("kitchen()", "G-aa", 3)
            .fault("kitchen()", "G-i", 2).fault("kitchen()", "G-j", 2).fault("kitchen()", "G-az", 3).fault("kitchen()", "G--", 2).fault("kitchen()", "G", 1)
            .fault("kitchen()", "Ga", 2).fault("kitchen()", "Ga;", 2).fault("kitchen()", "G-a1", 3);
    }

    private static void lawRanges() {
        Trial.ofTerms("THE LAW: what 0: SHARE 1 .. 8 (at first 1)").ask("law(0, 8)", 1).ask("law(0, 1)", 8)
            .outside("law(0, *)", NONE, 1, 8);
        Trial.ofTerms("1: TIMES 1 .. 9 (9)").ask("law(1, 1)", 9).ask("law(1, 9)", 1).outside("law(1, *)", NONE, 1, 9);
        Trial.ofTerms("2: HEAT 0 .. 2 (0)").ask("law(2, 2)", 0).ask("law(2, 1)", 2).ask("law(2, 0)", 1)
            .outside("law(2, *)", NONE, 0, 2);
    }

    private static void shareAndTimes() {
        Trial.ofTerms("A BANQUET: a row of unlike DISHES").kitchen("a1;a1").serve(0).refuse("serve(0)", -2)
            .serve(1).refuse("serve(0)", -2).menu(0, "ABA").tell("look(0)", 2, -2, 2, 0);
        Trial t = Trial.ofTerms("It is lawful, if each two one behind the other have SHARE or more STUFFS in common");
        t.kitchen("abcdefgh1;a1;ab1;abc1;abcd1;abcde1;abcdef1;abcdefg1;abcdefgh1").serve(0);
        for (int k = 1; k <= 8; k++) {
            t.leaveRow("law(0, " + k + ")", Math.max(1, k - 1)).serve(k).ask("back()", k);
            if (k < 8) t.leaveRow("law(0, " + (k + 1) + ")", k).refuse("serve(" + k + ")", -3).ask("law(0, " + k + ")", k + 1);
        }
        Trial.ofTerms("no STUFF is in more than TIMES of its DISHES").kitchen("a1;a1;a1;a1;a1;a1;a1;a1;a1;a1")
            .serve(0, 1, 2, 3, 4, 5, 6, 7, 8).refuse("serve(9)", -5).ask("over()", 9).ask("law(1, 1)", 9)
            .serve(9).refuse("serve(0)", -5).ask("law(1, 2)", 1).serve(0).refuse("serve(1)", -5);
    }

    private static void storesAndHeat() {
        Trial.ofTerms("nor in more than its STORE").kitchen("a1;a1;ab1").ask("store(0, 0)", 99).refuse("serve(0)", -6)
            .refuse("serve(2)", -6).ask("store(0, 1)", 0).serve(1).refuse("serve(0)", -6).ask("store(0, 2)", 1)
            .serve(0).refuse("serve(2)", -6).ask("store(0, 3)", 2).serve(2);
        Trial.ofTerms("by HEAT 1 no cold DISH is behind a HOT one (anywhere ahead)").kitchen("a1;a1;a1H;a1H;a1H;a1")
            .ask("law(2, 1)", 0).serve(0, 1, 2).refuse("serve(5)", -4).serve(3, 4).refuse("serve(5)", -4)
            .menu(0, "FAEDC").tell("look(0)", -2, 0, 5, 0).menu(0, "EF").tell("look(0)", 1, -4, 1, 0)
            .menu(0, "AEDCF").tell("look(0)", 4, -4, 4, 0);
        Trial.ofTerms("by HEAT 2 of two one behind the other just one is HOT").kitchen("a1;a1;a1H;a1H")
            .ask("law(2, 2)", 0).serve(0).refuse("serve(1)", -4).serve(2).refuse("serve(3)", -4).serve(1, 3)
            .menu(0, "CADB").tell("look(0)", -2, 0, 4, 0);
        Trial.ofTerms("by HEAT 2 of two one behind the other just one is HOT").kitchen("a1;a1H;a1;a1H")
            .menu(0, "ACBD").tell("look(0)", -2, 0, 4, 0).ask("law(2, 2)", 0).tell("look(0)", 1, -4, 1, 0);
    }

    private static void fewDishes() {
        Trial t = Trial.ofTerms("(None, and one DISH of what there is, as TIMES and STORES let it, are lawful.)");
        t.ask("ways(0)", 1).tell("longest()", 0).kitchen("a1;b1H").ask("law(0, 8)", 1).ask("law(1, 1)", 9);
        for (int heat = 0; heat < 3; heat++) {
            t.ask("law(2, " + heat + ")", Math.max(0, heat - 1)).ask("ways(0)", 1).ask("ways(1)", 2);
            t.tell("longest()", 1, 0).ask("can()", 3).serve(0).ask("back()", 0).serve(1).ask("back()", 1);
        }
        t.ask("store(0, 0)", 99).ask("ways(0)", 1).ask("ways(1)", 1).tell("longest()", 1, 1).ask("can()", 2);
        t.ask("store(1, 0)", 99).ask("ways(0)", 1).ask("ways(1)", 0).tell("longest()", 0).ask("can()", 0);
    }

    private static void ruleText() {
        String ones = "1" + "+1".repeat(19);
        Trial.ofTerms("THE RULE is a text of at most 40 signs").kitchen("a1;Ga-").read("rule()", ones, 0)
            .ask("joy(0, 0)", 20).read("rule()", ones + "0", 0).ask("joy(0, 0)", 29)
            .fault("rule()", ones + "00", 40).fault("rule()", ones + "0+", 40).ask("joy(0, 0)", 29);
        Trial.ofTerms("(at first none: how many STUFFS of the DISH the GUEST LOVES)")
            .kitchen("a1;abcdefgh1;Ga-;Gabcdefgh-;Gb-;G-").ask("joy(0, 0)", 1).ask("joy(0, 1)", 1)
            .ask("joy(1, 0)", 1).ask("joy(1, 1)", 8).ask("joy(2, 0)", 0).ask("joy(2, 1)", 1).ask("joy(3, 1)", 0);
    }

    private static Trial rule(Trial t, String rule, int joy) {
        return t.read("rule()", rule, 0).ask("joy(0, 0)", joy);
    }

    private static void operators() {
        Trial t = Trial.ofTerms("EXPRESSION: < > = bind least (two; 1 or 0; not one behind the other)").kitchen("a1;Ga-");
        String[] rules = {"1<2", "2<2", "3<2", "1>2", "2>2", "3>2", "1=2", "2=2", "3=2", "1+1=2", "2=1+1", "2*3>1+4",
            "0-1<0", "(1<2)<3", "1<(2<3)", "5+(1=1)", "(1<2)=(2<3)"};
        int[] joys = {1, 0, 0, 0, 0, 1, 0, 1, 0, 1, 1, 1, 1, 1, 0, 6, 1};
        for (int k = 0; k < rules.length; k++) rule(t, rules[k], joys[k]);
        for (String sign : new String[] {"<", ">", "="}) {
            t.fault("rule()", "1<2" + sign + "3", 3).fault("rule()", "1" + sign + sign + "3", 2);
            t.fault("rule()", sign + "1", 0).fault("rule()", "1" + sign, 2);
        }
        t.fault("rule()", "(1<2=3)", 4).ask("joy(0, 0)", 1);
        t = Trial.ofTerms("then + - (from the left)").kitchen("a1;Ga-");
        rule(rule(rule(rule(rule(t, "9-3-2", 4), "9-3+2", 8), "1+2*3", 7), "2*3-10/5", 4), "9-(3-2)", 8);
        t.fault("rule()", "+1", 0).fault("rule()", "1+", 2).fault("rule()", "1++1", 2).fault("rule()", "1-+1", 2);
        t = Trial.ofTerms("then * / (from the left; by 0: 0; cut to 0)").kitchen("a1;Ga-");
        String[] products = {"24/4/2", "24/4*2", "24*4/2", "24/(4*2)", "5/0", "0/0", "0-5/0", "7/0*3", "7/2", "-7/2",
            "7/-2", "-7/-2", "1/2", "-1/2", "1/(2-2)", "999/998", "998/999"};
        int[] results = {3, 12, 48, 3, 0, 0, 0, 0, 3, -3, -3, 3, 0, 0, 0, 1, 0};
        for (int k = 0; k < products.length; k++) rule(t, products[k], results[k]);
        t.fault("rule()", "*1", 0).fault("rule()", "1*", 2).fault("rule()", "1*/1", 2).fault("rule()", "1//1", 2);
        t = Trial.ofTerms("then - ahead of a thing (any many)").kitchen("a1;Ga-");
        rule(rule(rule(rule(rule(t, "-1", -1), "--1", 1), "---1", -1), "3--4", 7), "3*-4", -12);
        rule(rule(rule(t, "-".repeat(39) + "1", -1), "-".repeat(38) + "1", 1), "-(2+3)--(1)", -4);
        t.fault("rule()", "-", 1).fault("rule()", "1-", 2).fault("rule()", "1--", 3).fault("rule()", "-*1", 1);
    }

    private static void things() {
        Trial t = Trial.ofTerms("things: a NUMBER of 1 to 3 digits").kitchen("a1;Ga-");
        rule(rule(rule(rule(rule(rule(t, "0", 0), "9", 9), "10", 10), "100", 100), "999", 999), "007", 7);
        t.fault("rule()", "1000", 3).fault("rule()", "0000", 3).fault("rule()", "1+9999", 5).fault("rule()", "/", 0)
            .fault("rule()", ":", 0).fault("rule()", "1:", 1).fault("rule()", "1 ", 1).ask("joy(0, 0)", 7);
        t = Trial.ofTerms("an EXPRESSION in ( ) (at most 4 in one another)").kitchen("a1;Ga-");
        rule(rule(rule(t, "((((7))))", 7), "((((7))))+((((8))))", 15), "(1+(2+(3+(4))))", 10);
        t.fault("rule()", "(((((7)))))", 4).fault("rule()", "(((1+(1+(7))", 8).fault("rule()", "()", 1)
            .fault("rule()", "(7", 2).fault("rule()", "(", 1).fault("rule()", "7)", 1).fault("rule()", ")", 0)
            .fault("rule()", "(7)(8)", 3).fault("rule()", "7(8)", 1).fault("rule()", "((7)", 4).fault("rule()", "((((7", 5)
            .fault("rule()", "((((7)))))", 9).ask("joy(0, 0)", 10);
    }

    private static Trial quality(String words, char sign) {
        return Trial.ofTerms(words).kitchen("a0;abcdefgh99H+9;b1;b1;b1;b1;b1;b1;b1;h5+5")
            .kitchen("G-;Gabcdefgh-;G-abcdefgh;G-;G-;Gah-ah").read("rule()", "" + sign, 0);
    }

    private static void qualities() {
        quality("of a GUEST and a DISH: l how many STUFFS it LOVES are in it", 'l').ask("joy(0, 1)", 0).ask("joy(1, 0)", 1)
            .ask("joy(1, 1)", 8).ask("joy(2, 1)", 0).ask("joy(5, 1)", 2).ask("joy(5, 9)", 1).ask("joy(5, 2)", 0);
        quality("b how many it BARS", 'b').ask("joy(0, 1)", 0).ask("joy(1, 1)", 0).ask("joy(2, 1)", 8)
            .ask("joy(2, 0)", 1).ask("joy(5, 1)", 2).ask("joy(5, 9)", 1).ask("joy(5, 2)", 0);
        quality("n how many STUFFS it has", 'n').ask("joy(0, 0)", 1).ask("joy(0, 1)", 8).ask("joy(5, 9)", 1);
        quality("c COST", 'c').ask("joy(0, 0)", 0).ask("joy(0, 1)", 99).ask("joy(5, 9)", 5)
            .ask("sheet(2, 2, 7, 1)", 15).ask("joy(0, 0)", 7).ask("joy(0, 1)", 8).ask("joy(0, 9)", 0);
        quality("h 1 if HOT", 'h').ask("joy(0, 0)", 0).ask("joy(0, 1)", 1).ask("joy(5, 9)", 0);
        quality("o HOURS", 'o').ask("joy(0, 0)", 0).ask("joy(0, 1)", 9).ask("joy(5, 9)", 5);
        quality("g the GUEST's number", 'g').ask("joy(0, 0)", 0).ask("joy(0, 9)", 0).ask("joy(5, 0)", 5).ask("joy(5, 9)", 5);
        quality("d the DISH's", 'd').ask("joy(0, 0)", 0).ask("joy(0, 9)", 9).ask("joy(5, 0)", 0).ask("joy(5, 9)", 9)
            .fault("rule()", "a", 0).fault("rule()", "m", 0).fault("rule()", "ll", 1).fault("rule()", "L", 0);
    }

    private static void joy() {
        Trial t = Trial.ofTerms("As ints, put to -999 .. 999: JOY").kitchen("a1;Ga-");
        String[] rules = {"998+0", "998+1", "998+2", "999*999", "-998", "-998-1", "-998-2", "-999*999", "999-1000/1",
            "512*512*512*8", "512*512*512*16", "512*512*512*16-1", "512*512*512*32", "512*512*512*32+5",
            "-(512*512*512*16)", "512*512*512*16/-1", "(999*999-999*999)+3", "999*999>999"};
        int[] joys = {998, 999, 999, 999, -998, -999, -999, -999, 0,
            999, -999, 999, 0, 5,
            -999, -999, 3, 1};
        for (int k = 0; k < rules.length; k++) {
            if (rules[k].contains("1000")) t.fault("rule()", rules[k], 7);
            else rule(t, rules[k], joys[k]);
        }
    }

    private static void hungry() {
        Trial.ofTerms("A GUEST goes HUNGRY at a DISH in which is what it BARS (JOY is what it is all the same)")
            .kitchen("ab1;b1;cdefgh1;Gab-a;G-;Gab-abcdefgh;Gb-h").ask("dish(0, 5)", 2).ask("dish(1, 5)", 1)
            .ask("dish(2, 5)", 2).ask("joy(0, 0)", 2).ask("joy(0, 1)", 1).ask("joy(2, 0)", 2).ask("joy(3, 2)", 0)
            .ask("dish(0, 4)", 5).tell("bears(0)", 1, 1).tell("bears(1)", 2, 0, 1).tell("bears(2)", 0)
            .tell("bears(3)", 2, 0, 1);
    }

    private static void tableAndMenus() {
        Trial.ofTerms("THE BANQUET: what was served so far (at first none)").ask("count(2)", 0).ask("count(3)", NONE)
            .ask("count(4)", 0).refuse("back()", NONE).kitchen("a3;ab4").serve(1, 0).ask("count(2)", 2)
            .ask("count(3)", 0).ask("count(4)", 7);
        Trial.ofTerms("MENUS 0 .. 2: rows of at most 10 DISHES, laid down (at first none)").kitchen(TEN).ask("count(7)", 0)
            .outside("look(*)", -3, 0, 2).refuse("look(0)", -3).refuse("look(1)", -3).refuse("look(2)", -3)
            .menu(0, "ABCDEFGHIJ").menu(2, "JIHGFEDCBA").fault("menu(1)", "ABCDEFGHIJA", 10).ask("count(7)", 5)
            .menu(1, "??????????").ask("count(7)", 7).unread("menu(3)", "A", -100).unread("menu(-1)", "A", -100)
            .menuHours(0, 0, 1, 2, 3, 4, 5, 6, 7, 8, 9).menuHours(2, 9, 8, 7, 6, 5, 4, 3, 2, 1, 0);
    }

    private static void rows() {
        Trial.ofTerms("ROW: numbers told last by a call that says so").kitchen("ab1;bc1;c1;d1;Ga-").row()
            .tell("longest()", 3, 0, 1, 2).tell("parts()", 2, 7, 8).ask("can()", 15).row(7, 8)
            .ask("ways(2)", 4).row(7, 8).tell("rare()", 0, 1).ask("shut(2)", 8).row(1).ask("beside(0)", 2).row(1)
            .menu(0, "?B").row(1).tell("fills(0)", 2, 0, 1).ask("sure(0, 1)", 2).row(0, 1).ask("turn(0)", 1).row(0, 1)
            .serve(0, 1, 2).row(0, 1).tell("longest()", 0);
        Trial.ofTerms("Rows of numbers are compared from the first on").kitchen("ah1;bg1;ab1;abgh1;gh1")
            .tell("longest()", 5, 0, 2, 1, 3, 4).tell("between(1, 0)", 5, 1, 2, 3, 4, 0)
            .tell("shortest(1, 0)", 3, 1, 2, 0).tell("dear(2)", 2, 0, 2).tell("cheap(3)", 3, 0, 2, 1);
    }

    private static void refusals() {
        Trial t = Trial.ofTerms("Refused calls answer NONE, or false, and change nothing but THE TEXT");
        t.kitchen(TEN).kitchen("Ga-c;Gb-").menu(0, "ABC").menu(1, "A?").serve(0, 4).ask("keep(0)", 1);
        t.tell("best(1, 9)", 1, 2, 1).write("CAB");
        String[] none = {"law(0, 0)", "store(0, 100)", "sheet(4, 1, 1, 1)", "serve(10)", "falls(0, 1, 0)", "ways(11)",
            "between(0, 10)", "shortest(-1, 0)", "bears(2)", "beside(10)", "shut(10)", "best(11, 0)", "fair(0, 1000)",
            "cheap(-1)", "dear(11)", "mend(0, 8)", "late(0, 10)", "poison(0, 4)", "eats(0, 2)", "count(8)"};
        for (String call : none) t.refuse(call, NONE);
        for (String call : new String[] {"end(4)", "swap(0, 0, 0)", "turn(2)", "keep(2)", "again(1)"}) t.refuse(call, 0);
    }

    private static void textsRead() {
        Trial.ofTerms("which a call that can read it empties, whatever it answers").kitchen("a1;Ga-")
            .read("kitchen()", "b2", 1).unread("kitchen()", "x", -1).read("rule()", "7", 0).unread("rule()", "x", -1)
            .read("menu(0)", "AB", 2).unread("menu(0)", "x", -1).unread("menu(3)", "AB", -100)
            .unread("menu(-1)", "AB", -100).read("kitchen()", "", 0).read("menu(1)", "", 0).read("rule()", "", 0)
            .unread("kitchen()", "a1;".repeat(26), -25).unread("rule()", "1+".repeat(40), -41)
            .unread("menu(2)", "A".repeat(80), -11).write("a").refuse("back()", NONE).ask("count(6)", 1)
            .ask("can()", 3).ask("count(6)", 1);
    }

    private static void rowsLeft() {
        Trial t = Trial.ofTerms("An answer of -2, -3 leaves the ROW");
        t.kitchen("a1;a2;h3").menu(0, "AC").menu(1, "?").tell("best(2, 9)", 1, 0, 0, 1);
        t.leaveRow("sheet(3, 0, 0, 0)", -3).refuse("sheet(2, -1, 0, 0)", -2).refuse("between(0, 2)", -2);
        t.refuse("shortest(0, 2)", -2).refuse("round()", -2).refuse("best(3, 9)", -2).refuse("fair(0, 9)", -2);
        t.refuse("cheap(3)", -2).refuse("dear(3)", -2).refuse("mend(0, 0)", -2).refuse("mend(1, 0)", -3);
        t.refuse("fills(2)", -3).refuse("sure(2, 0)", -3).refuse("hearths(1)", -3).refuse("late(1, 1)", -3);
        t.refuse("poison(1, 0)", -3).serve(0).refuse("serve(0)", -2).refuse("serve(2)", -3).row(0, 0, 1);
        Trial.ofTerms("An answer of -2, -3 leaves the ROW").kitchen("ab1;cd1;ef1;G-").menu(1, "?")
            .tell("parts()", 3, 1, 2, 4).refuse("made()", -2).refuse("eats(1, 0)", -3).refuse("look(0)", -3)
            .refuse("look(3)", -3).refuse("joined(0, 1)", -3).refuse("joined(1, 1)", -3).row(1, 2, 4);
    }

    private static void rowsLeftOn() {
        Trial.ofTerms("An answer of -2, -3 leaves the ROW").tell("game()", 0, NONE, 0).refuse("rare()", -2).row(NONE, 0);
        Trial.ofTerms("(but that of look(), joined() of a lawful one)").kitchen("ab1;bc2;G-c").menu(0, "A").menu(1, "B")
            .tell("longest()", 2, 0, 1).tell("look(1)", -2, 0, 2, 1).tell("joined(0, 1)", -2, 0)
            .tell("look(0)", -2, 0, 1, 0).refuse("look(2)", -3).row(0, 1, 0);
    }
}
