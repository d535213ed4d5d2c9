/** The edges of promises 12 to 21: the banquet and the menus. */
final class BanquetEdges {
    private static final int NONE = -1;
    private static final String TEN = TermsEdges.TEN;

    private BanquetEdges() {
    }

    static void all() {
        serve();
        serveOrder();
        serveWhy();
        serveHeat();
        serveEnough();
        back();
        over();
        can();
        menu();
        menuSigns();
        look();
        lookWhy();
        lookTill();
        swap();
        turn();
        joined();
        joinedWhy();
        falls();
        fallsEdges();
    }

    private static void serve() {
        Trial.of(12, "A DISH is served behind THE BANQUET: how many were.").kitchen(TEN).serve(9, 8, 7, 6, 5, 4, 3, 2, 1, 0)
            .ask("count(2)", 10).ask("count(3)", 0).ask("can()", 0).refuse("serve(9)", -2).refuse("serve(0)", -2)
            .refuse("serve(10)", NONE).ask("back()", 0).ask("serve(0)", 10);
    }

    private static void serveOrder() {
        Trial.of(12, "Refused with why (the first)").kitchen("ab1H;c2;ab3;a4H;ab5H;ab6H").ask("law(0, 2)", 1).serve(0)
            .ask("law(1, 1)", 9).ask("law(2, 1)", 0).ask("store(0, 0)", 99).refuse("serve(0)", -2)
            .refuse("serve(1)", -3).refuse("serve(2)", -4).refuse("serve(3)", -3).refuse("serve(4)", -5)
            .ask("law(1, 9)", 1).refuse("serve(4)", -6).ask("store(0, 2)", 0).serve(4).refuse("serve(5)", -6)
            .ask("law(2, 2)", 1).refuse("serve(5)", -4).refuse("serve(0)", -2).refuse("serve(1)", -3);
        Trial.of(12, "Refused with why (the first)").kitchen("ab1;b2;a3").serve(0).ask("law(1, 1)", 9)
            .ask("store(1, 1)", 99).refuse("serve(1)", -5).ask("law(1, 2)", 1).refuse("serve(1)", -6);
    }

    private static void serveWhy() {
        Trial.of(12, "-2: it was served already").kitchen("ab1;ab2;b3").serve(0).refuse("serve(0)", -2).serve(1)
            .refuse("serve(0)", -2).refuse("serve(1)", -2).serve(2).refuse("serve(0)", -2).ask("back()", 2).serve(2);
        Trial.of(12, "-3: it does not share enough with the last one").kitchen("abc1;ad2;bce3;abcd4;f5").serve(0)
            .refuse("serve(4)", -3).ask("law(0, 2)", 1).refuse("serve(1)", -3).serve(2).ask("law(0, 3)", 2)
            .refuse("serve(3)", -3).ask("law(0, 2)", 3).serve(3).refuse("serve(4)", -3).serve(1);
        Trial.of(12, "-3: it does not share enough with the last one").kitchen("a1;ab2;b3;a4").serve(0, 1, 2)
            .refuse("serve(3)", -3).ask("back()", 2).serve(3);
        Trial.of(12, "-3: it does not share enough with the last one").kitchen("abcdefgh1;abcdefg2;abcdefgh3")
            .ask("law(0, 8)", 1).serve(0).refuse("serve(1)", -3).serve(2).ask("law(0, 7)", 8).serve(1);
        Trial.of(12, "NONE: none such.").refuse("serve(0)", NONE).kitchen("a1;a2;a3").outside("serve(*)", NONE, 0, 2)
            .serve(2).outside("serve(*)", NONE, 0, 2).serve(0);
        Trial.of(12, "NONE: none such.").kitchen(TEN).outside("serve(*)", NONE, 0, 9).serve(9);
    }

    private static void serveHeat() {
        Trial.of(12, "-4: HEAT").kitchen("a1;a2;a3H;a4H").serve(2, 0, 3, 1).ask("over()", 4).ask("law(2, 1)", 0).serve(2)
            .refuse("serve(0)", -4).serve(3).refuse("serve(0)", -4).ask("over()", 2).serve(0, 1, 2, 3);
        Trial.of(12, "-4: HEAT").kitchen("a1;a2;a3H;a4H").ask("law(2, 2)", 0).serve(2).refuse("serve(3)", -4).serve(0)
            .refuse("serve(1)", -4).serve(3).ask("law(2, 0)", 2).ask("back()", 3).serve(1);
    }

    private static void serveEnough() {
        Trial.of(12, "-5: a STUFF would be in more than TIMES").kitchen("ah1;h2;ah3;h4").ask("law(1, 1)", 9).serve(0)
            .refuse("serve(1)", -5).refuse("serve(2)", -5).ask("law(1, 2)", 1).serve(1).refuse("serve(3)", -5)
            .ask("law(1, 3)", 2).serve(3).refuse("serve(2)", -5).ask("law(1, 4)", 3).serve(2);
        Trial.of(12, "-5: a STUFF would be in more than TIMES").kitchen("a1;a1;a1;a1;a1;a1;a1;a1;a1;a1")
            .serve(0, 1, 2, 3, 4, 5, 6, 7, 8).refuse("serve(9)", -5);
        Trial.of(12, "-6: in more than its STORE").kitchen("ah1;h2;ah3;h4").ask("store(7, 0)", 99).refuse("serve(1)", -6)
            .ask("store(7, 1)", 0).serve(1).refuse("serve(0)", -6).ask("store(7, 2)", 1).ask("store(0, 0)", 99)
            .refuse("serve(0)", -6).serve(3).ask("store(7, 4)", 2).ask("store(0, 1)", 0).serve(0)
            .refuse("serve(2)", -6).ask("store(0, 2)", 1).serve(2);
    }

    private static void back() {
        Trial t = Trial.of(13, "The last DISH served is taken back: it.").kitchen(TEN).serve(3, 9, 4, 0).ask("back()", 0);
        t.ask("back()", 4).ask("count(2)", 2).ask("count(3)", 9).serve(0, 1).ask("back()", 1).ask("back()", 0);
        t.ask("back()", 9).ask("count(3)", 3).ask("back()", 3).ask("count(3)", NONE).ask("count(2)", 0);
        t = Trial.of(13, "The last DISH served is taken back: it.").kitchen(TEN).serve(0, 1, 2, 3, 4, 5, 6, 7, 8, 9);
        for (int d = 9; d >= 0; d--) t.ask("back()", d);
        t.refuse("back()", NONE).ask("store(0, 99)", 99).ask("can()", 1023);
        Trial.of(13, "Refused: none.").refuse("back()", NONE).kitchen("a1").refuse("back()", NONE).serve(0).ask("back()", 0)
            .refuse("back()", NONE).refuse("back()", NONE).serve(0).ask("over()", 1).refuse("back()", NONE);
    }

    private static void over() {
        Trial t = Trial.of(14, "THE BANQUET is over: how many DISHES it had").ask("over()", 0).kitchen(TEN).ask("over()", 0);
        t.serve(0).ask("over()", 1).serve(0, 1, 2, 3, 4, 5, 6, 7, 8, 9).ask("over()", 10).ask("over()", 0);
        t = Trial.of(14, "STORES are less by what was in them.").kitchen("abcdefgh1;ah2;h3").ask("over()", 0);
        t.ask("store(6, 1)", 99).serve(0, 1, 2).ask("over()", 3);
        int[] left = {97, 98, 98, 98, 98, 98, 0, 96};
        for (int s = 0; s < 8; s++) t.ask("store(" + s + ", " + left[s] + ")", left[s]);
        t.refuse("serve(0)", -6).serve(1).ask("over()", 1).ask("store(0, 0)", 96).ask("store(6, 0)", 0);
        Trial.of(14, "STORES are less by what was in them.").kitchen("a1;a2").serve(0, 1).ask("store(0, 1)", 99)
            .ask("over()", 2).ask("store(0, 0)", 0).ask("can()", 0);
        Trial.of(14, "(Then nothing is served.)").kitchen("a3;a4").serve(1, 0).ask("over()", 2).ask("count(2)", 0)
            .ask("count(3)", NONE).ask("count(4)", 0).refuse("back()", NONE).ask("can()", 3).serve(1);
    }

    private static void can() {
        Trial.of(15, "DISHES (bits) that could be served now.").ask("can()", 0).kitchen(TEN).ask("can()", 1023).serve(0)
            .ask("can()", 1022).serve(1, 2, 3, 4, 5, 6, 7, 8).ask("can()", 512).serve(9).ask("can()", 0);
        Trial.of(15, "DISHES (bits) that could be served now.").kitchen("ab1;bc2H;cd3;ab4").serve(0).ask("can()", 10)
            .ask("law(0, 2)", 1).ask("can()", 8).ask("law(0, 3)", 2).ask("can()", 0).ask("law(0, 1)", 3)
            .ask("law(2, 2)", 0).ask("can()", 2).ask("law(2, 0)", 2).ask("store(2, 0)", 99).ask("can()", 8)
            .ask("law(1, 1)", 9).ask("can()", 0).ask("back()", 0).ask("can()", 9);
    }

    private static void menu() {
        Trial.of(16, "THE TEXT is a MENU (letters A .. J of DISHES that are there").kitchen("a1;b1;c1+2").menu(0, "C")
            .menu(0, "A").menu(0, "CAB").fault("menu(0)", "D", 0).fault("menu(0)", "J", 0).fault("menu(0)", "@", 0)
            .fault("menu(0)", "ABD", 2).fault("menu(0)", "a", 0).menuHours(0, 2, 0, 0);
        Trial.of(16, "THE TEXT is a MENU (letters A .. J of DISHES that are there").kitchen(TEN).menu(0, "JIHGFEDCBA")
            .menuHours(0, 9, 8, 7, 6, 5, 4, 3, 2, 1, 0).fault("menu(0)", "K", 0).fault("menu(1)", "Z", 0).menu(1, "J")
            .menuHours(1, 9);
        Trial.of(16, "also the same more than once").kitchen("a1;b1+5").menu(0, "BB").menu(1, "BBBBBBBBBB").menuHours(0, 5, 5)
            .menuHours(1, 5, 5, 5, 5, 5, 5, 5, 5, 5, 5).menu(2, "BAB").menuHours(2, 5, 0, 5);
        Trial.of(16, "? for one that is not known").menu(0, "?").menu(1, "??????????").ask("count(7)", 3)
            .fault("menu(0)", "A", 0).fault("menu(0)", "?A", 1).kitchen("a1;b1").menu(0, "A?B??").refuse("hearths(0)", -3)
            .fault("menu(0)", ">", 0).fault("menu(0)", "A?C", 2);
        Trial.of(16, "an empty one: none)").kitchen("a1").read("menu(0)", "", 0).ask("count(7)", 0).menu(0, "A").menu(2, "A")
            .ask("count(7)", 5).read("menu(0)", "", 0).ask("count(7)", 4).refuse("look(0)", -3).ask("look(2)", -2);
    }

    private static void menuSigns() {
        Trial.of(16, ": how many signs.").kitchen(TEN).read("menu(0)", "A", 1).read("menu(0)", "A?", 2)
            .read("menu(2)", "ABCDEFGHI", 9).read("menu(2)", "ABCDEFGHIJ", 10).read("menu(1)", "??????????", 10)
            .menuHours(2, 0, 1, 2, 3, 4, 5, 6, 7, 8, 9);
        Trial.of(16, "-1 - p: as kitchen() (10 signs)").kitchen(TEN).menu(0, "AJ").fault("menu(0)", "ABCDEFGHIJA", 10)
            .fault("menu(0)", "ABCDEFGHIJ!", 10).fault("menu(0)", "A".repeat(80), 10).fault("menu(0)", "ABCDEFGHI!A", 9)
            .fault("menu(0)", "ABCDEFGHI!", 9).fault("menu(0)", "!BCDEFGHIJA", 0).fault("menu(0)", "A;", 1)
            .fault("menu(1)", "" + (char) 255, 0).fault("menu(1)", "A" + (char) 0, 1).ask("count(7)", 1)
            .menuHours(0, 0, 9);
        Trial t = Trial.of(16, "-100: no such MENU (asked first).").kitchen("a1+5").menu(0, "A").menu(2, "AA");
        for (int i : new int[] {-1, 3, 32, 256, Integer.MIN_VALUE, Integer.MAX_VALUE}) {
            t.unread("menu(" + i + ")", "A", -100).unread("menu(" + i + ")", "x", -100).unread("menu(" + i + ")", "", -100);
        }
        t.unread("menu(3)", "A".repeat(11), -100).unread("menu(-1)", "B", -100).ask("count(7)", 5).menuHours(0, 5);
    }

    private static void look() {
        Trial.of(17, "A MENU looked at, as a BANQUET from nothing on").kitchen("a1;ab2;b4").menu(0, "AB").menu(1, "C")
            .serve(0).tell("look(0)", -2, 0, 3, 0).tell("look(1)", -2, 0, 4, 0).serve(1, 2).tell("look(0)", -2, 0, 3, 0)
            .ask("over()", 3).tell("look(0)", -2, 0, 3, 0).ask("store(0, 1)", 97).tell("look(0)", 1, -6, 1, 0);
        Trial.of(17, "-2: it is lawful").kitchen(TEN).menu(0, "A").menu(1, "ABCDEFGHIJ").tell("look(0)", -2, 0, 1, 0)
            .tell("look(1)", -2, 0, 10, 0).ask("sheet(2, 10, 99, 0)", 990).tell("look(1)", -2, 0, 990, 0);
        Trial.of(17, "else the first DISH of it that is not as serve() would have it (0 ..").kitchen(TEN)
            .menu(0, "ABCDEFGHIA").tell("look(0)", 9, -2, 9, 0).menu(0, "AA").tell("look(0)", 1, -2, 1, 0)
            .menu(0, "AABB").tell("look(0)", 1, -2, 1, 0).ask("store(1, 0)", 99).tell("look(0)", 0, -6, 0, 0)
            .menu(0, "HIJA").tell("look(0)", 3, -6, 3, 0);
        Trial.of(17, "one that is not known: too)").kitchen(TEN).menu(0, "?").tell("look(0)", 0, NONE, 0, 0)
            .menu(0, "ABCDEFGHI?").tell("look(0)", 9, NONE, 9, 0).menu(0, "AA?").tell("look(0)", 1, -2, 1, 0)
            .menu(0, "A?A").tell("look(0)", 1, NONE, 1, 0);
    }

    private static void lookWhy() {
        Trial.of(17, "the ROW: why (-2 .. -6; 0; NONE for one that is not known)").kitchen("ab1H;bc2;cd4;ab8H").menu(0, "ABD?")
            .tell("look(0)", 3, NONE, 11, 0).menu(0, "ABA").tell("look(0)", 2, -2, 3, 0).menu(0, "ABCA")
            .tell("look(0)", 3, -2, 7, 0).menu(0, "AC").tell("look(0)", 1, -3, 1, 0).menu(0, "AB")
            .ask("law(2, 1)", 0).tell("look(0)", 1, -4, 1, 0).ask("law(2, 2)", 1).tell("look(0)", -2, 0, 3, 0)
            .menu(1, "AD").tell("look(1)", 1, -4, 1, 0).ask("law(2, 0)", 2).ask("law(1, 1)", 9)
            .tell("look(0)", 1, -5, 1, 0).ask("law(1, 2)", 1).ask("store(2, 0)", 99).tell("look(0)", 1, -6, 1, 0)
            .menu(2, "B").tell("look(2)", 0, -6, 0, 0);
    }

    private static void lookTill() {
        Trial.of(17, "COST till then").kitchen("a99;a99;b99").menu(0, "AB").tell("look(0)", -2, 0, 198, 0).menu(0, "ABC")
            .tell("look(0)", 2, -3, 198, 0).menu(0, "CA").tell("look(0)", 1, -3, 99, 0).menu(0, "?A")
            .tell("look(0)", 0, NONE, 0, 0).ask("sheet(3, 0, 0, 0)", -3).menu(0, "ABC").tell("look(0)", 2, -3, 0, 0);
        Trial.of(17, "GUESTS (bits) that went HUNGRY at some DISH till then.").kitchen("a1;ab1;ac1;h1").menu(0, "ABC")
            .tell("look(0)", -2, 0, 3, 0).kitchen("G-b;G-;G-c;G-bc;G-h;G-b").tell("look(0)", -2, 0, 3, 45).menu(1, "ABD")
            .tell("look(1)", 2, -3, 2, 41).menu(1, "AB").tell("look(1)", -2, 0, 2, 41).menu(1, "AD")
            .tell("look(1)", 1, -3, 1, 0).menu(1, "D").tell("look(1)", -2, 0, 1, 16).menu(1, "B?")
            .tell("look(1)", 1, NONE, 1, 41);
        Trial.of(17, "GUESTS (bits) that went HUNGRY at some DISH till then.").kitchen("a1;G-a;G-a;G-a;G-a;G-a;G-a")
            .menu(0, "A").tell("look(0)", -2, 0, 1, 63).menu(0, "AA").tell("look(0)", 1, -2, 1, 63);
        Trial.of(17, "-3: no such MENU, none laid down.").kitchen("a1").menu(1, "A").tell("look(1)", -2, 0, 1, 0)
            .outside("look(*)", -3, 0, 2).refuse("look(0)", -3).refuse("look(2)", -3).read("menu(1)", "", 0)
            .refuse("look(1)", -3);
    }

    private static void swap() {
        Trial t = Trial.of(18, "Two places of a MENU are changed with one another: true").kitchen(TEN).menu(0, "ABCDEFGHIJ");
        t.ask("swap(0, 0, 9)", 1).menuHours(0, 9, 1, 2, 3, 4, 5, 6, 7, 8, 0).ask("swap(0, 9, 8)", 1);
        t.menuHours(0, 9, 1, 2, 3, 4, 5, 6, 7, 0, 8).ask("swap(0, 1, 0)", 1).menuHours(0, 1, 9, 2, 3, 4, 5, 6, 7, 0, 8);
        t.menu(2, "A?").ask("swap(2, 0, 1)", 1).tell("look(2)", 0, NONE, 0, 0).menu(1, "AA").ask("swap(1, 0, 1)", 1);
        Trial.of(18, "Refused: no such MENU, no such places, the same place twice.").kitchen(TEN).menu(0, "JAB").menu(2, "A")
            .outside("swap(*, 0, 1)", 0, 0, 2).refuse("swap(1, 0, 1)", 0).outside("swap(0, *, 0)", 0, 0, 2)
            .outside("swap(0, 0, *)", 0, 0, 2).refuse("swap(2, 0, 1)", 0).refuse("swap(2, 0, 0)", 0)
            .refuse("swap(0, 0, 0)", 0).refuse("swap(0, 2, 2)", 0).refuse("swap(0, 3, 3)", 0).refuse("swap(0, -1, 3)", 0)
            .refuse("swap(0, -1, -1)", 0).menuHours(0, 9, 0, 1).ask("swap(0, 2, 0)", 1).menuHours(0, 1, 0, 9);
        Trial.of(18, "Refused: no such MENU, no such places, the same place twice.").kitchen(TEN).menu(1, "ABCDEFGHIJ")
            .outside("swap(1, 0, *)", 0, 0, 9).outside("swap(1, *, 9)", 0, 0, 9).ask("swap(1, 9, 0)", 1);
    }

    private static void turn() {
        Trial.of(19, "A MENU is turned round: its first DISH is the last: true").kitchen(TEN).menu(0, "ABCDEFGHIJ")
            .ask("turn(0)", 1).menuHours(0, 9, 8, 7, 6, 5, 4, 3, 2, 1, 0).menu(1, "ABC").ask("turn(1)", 1)
            .menuHours(1, 2, 1, 0).menu(2, "J").ask("turn(2)", 1).menuHours(2, 9).menu(2, "AB").ask("turn(2)", 1)
            .menuHours(2, 1, 0).menu(1, "AB?").ask("turn(1)", 1).tell("look(1)", 0, NONE, 0, 0)
            .ask("turn(1)", 1).tell("look(1)", 2, NONE, 2, 0);
        Trial.of(19, "Refused: no such MENU, none laid down.").refuse("turn(0)", 0).kitchen("a1;b1+1").menu(1, "AB")
            .outside("turn(*)", 0, 0, 2).refuse("turn(0)", 0).refuse("turn(2)", 0).menuHours(1, 0, 1)
            .read("menu(1)", "", 0).refuse("turn(1)", 0);
    }

    private static void joined() {
        Trial.of(20, "Two MENUS (without ?) one behind the other, looked at as one: -2: lawful").kitchen(TEN).menu(0, "ABCDE")
            .menu(1, "FGHIJ").tell("joined(0, 1)", -2, 0).tell("joined(1, 0)", -2, 0).menu(2, "A").menu(1, "B")
            .tell("joined(2, 1)", -2, 0).menu(0, "BCDEFGHIJ").tell("joined(2, 0)", -2, 0).serve(0, 1)
            .tell("joined(0, 2)", -2, 0);
        Trial.of(20, "else the first place (0 .., counted on) that is not").kitchen(TEN).menu(0, "ABCDEFGHIJ").menu(1, "A")
            .tell("joined(0, 1)", 10, -2).tell("joined(1, 0)", 1, -2).tell("joined(0, 0)", 10, -2)
            .tell("joined(1, 1)", 1, -2).menu(2, "AA").tell("joined(2, 1)", 1, -2).tell("joined(1, 2)", 1, -2)
            .menu(1, "JIHGFEDCBA").tell("joined(0, 1)", 10, -2).menu(1, "BCDEFGHIJB").tell("joined(2, 1)", 1, -2)
            .menu(2, "A").tell("joined(2, 1)", 10, -2).ask("store(0, 0)", 99).tell("joined(2, 1)", 0, -6);
    }

    private static void joinedWhy() {
        Trial.of(20, "the ROW: why.").kitchen("ab1H;bc2;cd4;ab8H").menu(0, "AB").menu(1, "CB").tell("joined(0, 1)", 3, -2)
            .menu(1, "D").menu(2, "C").tell("joined(1, 2)", 1, -3).tell("joined(0, 2)", -2, 0).ask("law(2, 1)", 0)
            .tell("joined(0, 2)", 1, -4).ask("law(2, 2)", 1).tell("joined(0, 2)", 2, -4).ask("law(2, 0)", 2)
            .ask("law(1, 1)", 9).tell("joined(0, 2)", 1, -5).ask("law(1, 2)", 1).tell("joined(0, 1)", 2, -5)
            .ask("store(3, 0)", 99).tell("joined(0, 2)", 2, -6).ask("law(0, 2)", 1).menu(0, "A")
            .tell("joined(0, 1)", -2, 0).ask("law(0, 3)", 2).tell("joined(0, 1)", 1, -3);
        Trial.of(20, "-3: one of them is none such, none laid down, or with ?.").kitchen("ab1;bc1").menu(0, "A").menu(1, "?")
            .tell("joined(0, 0)", 1, -2).outside("joined(*, 0)", -3, 0, 2).outside("joined(0, *)", -3, 0, 2)
            .refuse("joined(0, 1)", -3).refuse("joined(1, 0)", -3).refuse("joined(0, 2)", -3).refuse("joined(2, 0)", -3)
            .refuse("joined(3, 3)", -3).refuse("joined(1, 1)", -3).menu(1, "B").tell("joined(0, 1)", -2, 0);
    }

    private static void falls() {
        Trial.of(21, "MENUS (bits) laid down without ? (and not empty)").kitchen("ab1;ab2").ask("falls(3, 9, 0)", 0)
            .menu(0, "AB").ask("falls(3, 9, 0)", 1).menu(2, "BA").ask("falls(3, 9, 0)", 5).menu(1, "AB")
            .ask("falls(3, 9, 0)", 7).menu(0, "A?").ask("falls(3, 9, 0)", 6).read("menu(1)", "", 0)
            .ask("falls(3, 9, 0)", 4).menu(2, "??").ask("falls(3, 9, 0)", 0);
        Trial.of(21, "that are lawful by THE LAW as it is").kitchen("ab1;ab2;c3").menu(0, "AB").menu(1, "AC").menu(2, "AA")
            .ask("falls(3, 9, 0)", 1).ask("falls(8, 1, 2)", 1).ask("law(0, 3)", 1).ask("falls(8, 1, 2)", 0)
            .ask("law(0, 2)", 3).ask("falls(8, 1, 2)", 1).ask("store(0, 1)", 99).ask("falls(8, 1, 2)", 0)
            .ask("store(0, 2)", 1).serve(0, 1).ask("falls(8, 1, 2)", 1);
    }

    private static void fallsEdges() {
        Trial.of(21, "and would not be with SHARE, TIMES, HEAT told.").kitchen("abc1;abd2;ab3H;a4").menu(0, "ABC").menu(1, "BA")
            .menu(2, "D").ask("falls(1, 9, 0)", 0).ask("falls(2, 9, 0)", 0).ask("falls(3, 9, 0)", 3)
            .ask("falls(1, 3, 0)", 0).ask("falls(1, 2, 0)", 1).ask("falls(1, 1, 0)", 3).ask("falls(1, 9, 1)", 0)
            .ask("turn(0)", 1).ask("falls(1, 9, 1)", 1).ask("falls(1, 9, 2)", 3).ask("falls(8, 1, 2)", 3)
            .ask("law(0, 1)", 1).ask("law(1, 9)", 9).ask("law(2, 0)", 0);
        Trial.of(21, "and would not be with SHARE, TIMES, HEAT told.").kitchen("ab1;ab2").menu(0, "AB")
            .refuse("mend(0, 0)", -2).ask("falls(1, 9, 0)", 0).ask("falls(3, 9, 0)", 1).refuse("mend(0, 1)", -2)
            .ask("falls(1, 2, 1)", 0).ask("falls(1, 9, 0)", 0).ask("law(0, 2)", 1).ask("falls(2, 9, 0)", 0)
            .ask("falls(3, 9, 0)", 1).ask("falls(1, 1, 0)", 1);
        Trial t = Trial.of(21, "NONE: others than THE LAW can be.").kitchen("abcdefgh1;abcdefgh2H").menu(0, "AB");
        t.ask("falls(8, 9, 2)", 0).ask("falls(1, 1, 0)", 1).outside("falls(*, 9, 0)", NONE, 1, 8);
        t.outside("falls(1, *, 0)", NONE, 1, 9).outside("falls(1, 9, *)", NONE, 0, 2).refuse("falls(0, 0, 0)", NONE);
        t.refuse("falls(9, 10, 3)", NONE).ask("law(0, 1)", 1).ask("law(1, 9)", 9).ask("law(2, 0)", 0);
    }
}
