/** The edges of promises 46 to 49: what is kept, counts, the row. */
final class KeptEdges {
    private static final int NONE = -1;
    private static final String TEN = TermsEdges.TEN;

    private KeptEdges() {
    }

    static void all() {
        keep();
        again();
        againRefused();
        count();
        countKept();
        row();
    }

    private static void keep() {
        Trial.of(46, "THE BANQUET, STORES, THE LAW are kept under a number 0 .. 1: true").ask("keep(0)", 1).ask("keep(1)", 1)
            .kitchen("a1;ab2;b3").refuse("again(0)", 0).ask("keep(0)", 1).serve(0, 1).ask("law(0, 8)", 1).ask("law(1, 3)", 9)
            .ask("law(2, 2)", 0).ask("store(0, 5)", 99).ask("store(7, 0)", 99).ask("keep(1)", 1).ask("again(0)", 1)
            .ask("count(2)", 0).ask("law(0, 1)", 1).ask("law(1, 9)", 9).ask("law(2, 0)", 0).ask("store(0, 99)", 99)
            .ask("store(7, 99)", 99).ask("again(1)", 1).ask("count(2)", 2).ask("count(3)", 1).ask("count(4)", 3)
            .ask("law(0, 1)", 8).ask("law(1, 9)", 3).ask("law(2, 0)", 2).ask("store(0, 99)", 5).ask("store(7, 99)", 0)
            .ask("back()", 1).ask("back()", 0).ask("keep(0)", 1).ask("again(0)", 1).ask("count(2)", 0);
        Trial.of(46, "THE BANQUET, STORES, THE LAW are kept under a number 0 .. 1: true").kitchen(TEN)
            .serve(9, 8, 7, 6, 5, 4, 3, 2, 1, 0).ask("keep(1)", 1).ask("over()", 10).ask("again(1)", 1).ask("count(2)", 10)
            .ask("back()", 0).ask("back()", 1).ask("again(1)", 1).ask("back()", 0).ask("store(0, 1)", 99).ask("over()", 9)
            .ask("again(1)", 1).ask("store(0, 1)", 99);
        Trial.of(46, "THE BANQUET, STORES, THE LAW are kept under a number 0 .. 1: true").kitchen(TEN).serve(7, 0, 5)
            .ask("keep(0)", 1).ask("over()", 3).serve(1, 2, 3, 4).ask("keep(1)", 1).ask("again(0)", 1).ask("count(3)", 5)
            .ask("back()", 5).ask("back()", 0).ask("back()", 7).refuse("back()", NONE).serve(9, 8).ask("again(1)", 1)
            .ask("back()", 4).ask("back()", 3).ask("back()", 2).ask("back()", 1).refuse("back()", NONE);
        Trial.of(46, "Refused: others.").kitchen("a1").serve(0).ask("keep(1)", 1).ask("back()", 0).outside("keep(*)", 0, 0, 1)
            .refuse("again(0)", 0).ask("again(1)", 1).ask("count(2)", 1);
    }

    private static void again() {
        Trial.of(47, "They are as they were kept under a number.").kitchen("a1;ab2;b3;G-").menu(0, "AB").ask("keep(1)", 1)
            .tell("longest()", 3, 0, 1, 2).read("rule()", "7", 0).ask("sheet(2, 3, 9, 0)", 27).menu(1, "C").write("CA")
            .ask("again(1)", 1).row(0, 1, 2).ask("count(6)", 2).ask("count(7)", 3).ask("joy(0, 0)", 7).ask("dish(0, 1)", 9)
            .serve(2).ask("again(1)", 1).ask("count(2)", 0).ask("again(1)", 1).serve(0, 1).ask("again(1)", 1)
            .ask("can()", 7);
        Trial.of(47, "They are as they were kept under a number.").kitchen("a1;ab2;b3").serve(0).ask("keep(0)", 1).serve(1)
            .ask("keep(1)", 1).serve(2).ask("again(0)", 1).ask("count(3)", 0).ask("again(1)", 1).ask("count(3)", 1)
            .ask("over()", 2).ask("keep(0)", 1).ask("again(1)", 1).ask("store(1, 99)", 99).ask("again(0)", 1)
            .ask("store(1, 99)", 98).ask("store(0, 99)", 97).ask("count(2)", 0);
    }

    private static void againRefused() {
        Trial.of(47, "Refused: nothing kept, DISHES came since.").refuse("again(0)", 0).refuse("again(1)", 0).kitchen("a1;b2")
            .refuse("again(0)", 0).ask("keep(0)", 1).outside("again(*)", 0, 0, 1).refuse("again(1)", 0).serve(1)
            .kitchen("G-;Ga-").ask("again(0)", 1).ask("count(2)", 0).serve(1).fault("kitchen()", "c1;x", 3)
            .read("kitchen()", "", 0).ask("again(0)", 1).ask("count(2)", 0).serve(1).kitchen("c1").refuse("again(0)", 0)
            .ask("count(2)", 1).ask("keep(1)", 1).refuse("again(0)", 0).ask("again(1)", 1).ask("keep(0)", 1)
            .ask("again(0)", 1);
        Trial.of(47, "Refused: nothing kept, DISHES came since.").ask("keep(0)", 1).ask("again(0)", 1).kitchen("G-")
            .ask("again(0)", 1).kitchen(TEN).refuse("again(0)", 0).ask("keep(0)", 1).serve(0).ask("again(0)", 1)
            .ask("count(2)", 0);
    }

    private static void count() {
        Trial.of(48, "What 0: DISHES").ask("count(0)", 0).kitchen("a1;G-").ask("count(0)", 1).kitchen("a1;a1;a1;a1;a1;a1;a1;a1")
            .ask("count(0)", 9).kitchen("h1").ask("count(0)", 10).fault("kitchen()", "a1", 0).ask("count(0)", 10);
        Trial.of(48, "1: GUESTS").ask("count(1)", 0).kitchen("a1;G-").ask("count(1)", 1).kitchen("G-;G-;G-;G-").ask("count(1)", 5)
            .kitchen("G-").ask("count(1)", 6).fault("kitchen()", "G-", 0).ask("count(1)", 6);
        Trial.of(48, "2: DISHES served").ask("count(2)", 0).kitchen(TEN).ask("count(2)", 0).serve(0).ask("count(2)", 1)
            .refuse("serve(0)", -2).ask("count(2)", 1).serve(1, 2, 3, 4, 5, 6, 7, 8, 9).ask("count(2)", 10).ask("back()", 9)
            .ask("count(2)", 9).ask("over()", 9).ask("count(2)", 0);
        Trial.of(48, "3: the last one (NONE)").ask("count(3)", NONE).kitchen(TEN).ask("count(3)", NONE).serve(0)
            .ask("count(3)", 0).serve(9).ask("count(3)", 9).ask("back()", 9).ask("count(3)", 0).ask("back()", 0)
            .ask("count(3)", NONE).serve(4).ask("over()", 1).ask("count(3)", NONE);
        Trial.of(48, "4: COST of those served").ask("count(4)", 0).kitchen(TEN).ask("sheet(2, 10, 99, 0)", 990).ask("count(4)", 0)
            .serve(0).ask("count(4)", 99).serve(1, 2, 3, 4, 5, 6, 7, 8, 9).ask("count(4)", 990).ask("sheet(2, 10, 0, 1)", 45)
            .ask("count(4)", 45).ask("back()", 9).ask("count(4)", 36).ask("sheet(3, 0, 0, 0)", -3).ask("count(4)", 0)
            .ask("sheet(2, 10, 5, 0)", 50).ask("over()", 9).ask("count(4)", 0);
    }

    private static void countKept() {
        Trial.of(48, "5: numbers of the ROW").ask("count(5)", 0).kitchen(TEN).tell("longest()", 10, 0, 1, 2, 3, 4, 5, 6, 7, 8, 9)
            .ask("count(5)", 10).tell("best(10, 999)", 1, 0, 0, 1, 2, 3, 4, 5, 6, 7, 8, 9).ask("count(5)", 11)
            .tell("made()", 0, 0).ask("count(5)", 1).tell("dear(0)", 0).ask("count(5)", 0).tell("game()", 0, NONE, 10)
            .ask("count(5)", 2);
        Trial t = Trial.of(48, "6: signs of THE TEXT").ask("count(6)", 0).ask("sign(0)", 4).ask("count(6)", 4).ask("end(1)", 1);
        t.ask("count(6)", 1).ask("end(0)", 1).ask("count(6)", 0);
        for (int k = 1; k <= 20; k++) t.ask("sign(7)", 4 * k).ask("count(6)", 4 * k);
        t.refuse("sign(7)", NONE).ask("count(6)", 80).unread("menu(3)", "A", -100).ask("count(6)", 0);
        Trial.of(48, "7: MENUS laid down (bits).").ask("count(7)", 0).read("menu(0)", "?", 1).ask("count(7)", 1)
            .read("menu(2)", "??", 2).ask("count(7)", 5).read("menu(1)", "??????????", 10).ask("count(7)", 7)
            .read("menu(0)", "", 0).ask("count(7)", 6).fault("menu(1)", "A", 0).ask("count(7)", 6).read("menu(2)", "", 0)
            .read("menu(1)", "", 0).ask("count(7)", 0);
        Trial.of(48, "NONE for another what.").outside("count(*)", NONE, 0, 7).kitchen("a1;G-").serve(0)
            .outside("count(*)", NONE, 0, 7).ask("count(7)", 0);
    }

    private static void row() {
        Trial.of(49, "Number i of the ROW.").kitchen(TEN).tell("best(10, 999)", 1, 0, 0, 1, 2, 3, 4, 5, 6, 7, 8, 9)
            .ask("row(0)", 0).ask("row(1)", 0).ask("row(10)", 9).tell("game()", 0, NONE, 10).ask("row(0)", NONE)
            .ask("row(1)", 10).tell("made()", 0, 0).ask("row(0)", 0);
        Trial.of(49, "NoSuchElementException: none such.").none("row(0)").none("row(-1)").kitchen(TEN).none("row(0)")
            .tell("longest()", 10, 0, 1, 2, 3, 4, 5, 6, 7, 8, 9).noneOutside("row(*)", 0, 9).tell("game()", 0, NONE, 10)
            .noneOutside("row(*)", 0, 1).tell("made()", 0, 0).noneOutside("row(*)", 0, 0).tell("cheap(0)", 0).none("row(0)")
            .none("row(9)").none("row(-1)");
    }
}
