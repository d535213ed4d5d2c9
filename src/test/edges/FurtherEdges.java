/** The edges of promises 22 to 31: how it can go on. */
final class FurtherEdges {
    private static final int NONE = -1;
    private static final String TEN = TermsEdges.TEN;
    /** A ring of four and a lone dish: ab, bc, cd, ad, e. */
    private static final String RING = "ab10;bc5;cd7;ad9;e3";

    private FurtherEdges() {
    }

    static void all() {
        longest();
        ways();
        between();
        shortest();
        bears();
        beside();
        parts();
        rare();
        round();
        roundEdges();
        shut();
    }

    private static void longest() {
        Trial.of(22, "The most DISHES that can still be served: how many").tell("longest()", 0).kitchen("a1").tell("longest()", 1, 0)
            .serve(0).tell("longest()", 0).kitchen("b1;ab1;b1").tell("longest()", 3, 2, 1, 3).ask("back()", 0)
            .tell("longest()", 4, 0, 2, 1, 3).ask("law(0, 2)", 1).tell("longest()", 1, 0).ask("store(0, 0)", 99)
            .tell("longest()", 1, 1).ask("store(1, 0)", 99).tell("longest()", 0);
        Trial.of(22, "The most DISHES that can still be served: how many").kitchen(TEN)
            .tell("longest()", 10, 0, 1, 2, 3, 4, 5, 6, 7, 8, 9).serve(9, 4).tell("longest()", 8, 0, 1, 2, 3, 5, 6, 7, 8)
            .serve(0, 1, 2, 3, 5, 6, 7).tell("longest()", 1, 8).serve(8).tell("longest()", 0);
        Trial.of(22, "the ROW: they: the least row of as many.").kitchen("ac1;b1;ab1;bc1").tell("longest()", 4, 0, 2, 1, 3)
            .serve(1).tell("longest()", 3, 2, 0, 3).ask("law(1, 2)", 9).tell("longest()", 2, 2, 0).serve(2)
            .tell("longest()", 1, 0);
    }

    private static void ways() {
        Trial t = Trial.of(23, "In how many ways just n (0 .. 10) more can be served.");
        t.ask("ways(0)", 1).ask("ways(1)", 0).ask("ways(10)", 0).kitchen("a1").ask("ways(0)", 1).ask("ways(1)", 1);
        t.ask("ways(2)", 0).serve(0).ask("ways(0)", 1).ask("ways(1)", 0).ask("ways(10)", 0);
        t = Trial.of(23, "In how many ways just n (0 .. 10) more can be served.").kitchen(TEN);
        long[] ways = {1, 10, 90, 720, 5040, 30240, 151200, 604800, 1814400, 3628800, 3628800};
        for (int n = 0; n <= 10; n++) t.ask("ways(" + n + ")", ways[n]);
        t.serve(0).ask("ways(9)", 362880).ask("ways(10)", 0).ask("ways(0)", 1).ask("back()", 0).ask("store(0, 6)", 99);
        t.ask("ways(10)", 0).ask("ways(9)", 7 * 362880);
        t = Trial.of(23, "In how many ways just n (0 .. 10) more can be served.").kitchen(RING);
        int[] few = {1, 5, 8, 8, 8, 0, 0, 0, 0, 0, 0};
        for (int n = 0; n <= 10; n++) t.ask("ways(" + n + ")", few[n]);
        Trial.of(23, "NONE: another n.").kitchen("a1").outside("ways(*)", NONE, 0, 10).ask("ways(0)", 1).ask("ways(10)", 0);
    }

    private static void between() {
        Trial.of(24, "The most DISHES of a BANQUET from nothing on that begins with one and ends with another one")
            .kitchen(RING).tell("between(0, 1)", 4, 0, 3, 2, 1).tell("between(0, 2)", 3, 0, 1, 2)
            .tell("between(1, 0)", 4, 1, 2, 3, 0).serve(0, 1).tell("between(0, 1)", 4, 0, 3, 2, 1)
            .tell("between(1, 2)", 4, 1, 0, 3, 2).ask("law(0, 2)", 1).refuse("between(0, 1)", -2);
        Trial.of(24, "The most DISHES of a BANQUET from nothing on that begins with one and ends with another one").kitchen(TEN)
            .tell("between(9, 0)", 10, 9, 1, 2, 3, 4, 5, 6, 7, 8, 0).tell("between(0, 9)", 10, 0, 1, 2, 3, 4, 5, 6, 7, 8, 9)
            .ask("store(2, 1)", 99).tell("between(0, 9)", 5, 0, 1, 2, 3, 9);
        Trial.of(24, "(or the same: 1): how many").kitchen(RING).tell("between(0, 0)", 1, 0).tell("between(4, 4)", 1, 4)
            .ask("law(0, 8)", 1).tell("between(2, 2)", 1, 2).ask("store(2, 0)", 99).refuse("between(2, 2)", -2)
            .tell("between(0, 0)", 1, 0).serve(0).tell("between(0, 0)", 1, 0);
        Trial.of(24, "the ROW: they: the least row of as many.").kitchen("ab1;ab1;ab1;abc1;c1").tell("between(2, 4)", 5, 2, 0, 1, 3, 4)
            .tell("between(4, 0)", 5, 4, 3, 1, 2, 0).ask("store(0, 2)", 99).tell("between(2, 4)", 3, 2, 3, 4);
        Trial.of(24, "-2: there is none").kitchen(RING).refuse("between(0, 4)", -2).refuse("between(4, 0)", -2)
            .ask("law(2, 2)", 0).refuse("between(0, 1)", -2).ask("law(2, 0)", 2).ask("law(1, 1)", 9)
            .refuse("between(0, 1)", -2).tell("between(0, 0)", 1, 0);
        Trial.of(24, "NONE: none such.").refuse("between(0, 0)", NONE).kitchen(RING).outside("between(*, 0)", NONE, 0, 4)
            .outside("between(4, *)", NONE, 0, 4).refuse("between(5, 5)", NONE).refuse("between(-1, -1)", NONE);
    }

    private static void shortest() {
        Trial.of(25, "The fewest DISHES of such a one: likewise.").kitchen(RING).tell("shortest(0, 1)", 2, 0, 1)
            .tell("shortest(0, 2)", 3, 0, 1, 2).tell("shortest(3, 1)", 3, 3, 0, 1).tell("shortest(4, 4)", 1, 4)
            .serve(1, 0).tell("shortest(0, 2)", 3, 0, 1, 2).ask("store(1, 1)", 99).tell("shortest(0, 2)", 3, 0, 3, 2)
            .ask("law(0, 8)", 1).tell("shortest(0, 0)", 1, 0).ask("store(0, 0)", 99).refuse("shortest(0, 0)", -2);
        Trial.of(25, "The fewest DISHES of such a one: likewise.")
            .kitchen("a1;ab1;bc1;cd1;de1;ef1;fg1;gh1;h1;h1").tell("shortest(0, 9)", 9, 0, 1, 2, 3, 4, 5, 6, 7, 9)
            .tell("between(0, 9)", 10, 0, 1, 2, 3, 4, 5, 6, 7, 8, 9).tell("shortest(9, 8)", 2, 9, 8);
        Trial.of(25, "-2, NONE likewise.").kitchen(RING).refuse("shortest(0, 4)", -2).refuse("shortest(4, 3)", -2)
            .outside("shortest(*, 0)", NONE, 0, 4).outside("shortest(4, *)", NONE, 0, 4).refuse("shortest(5, 5)", NONE)
            .ask("store(4, 0)", 99).refuse("shortest(4, 4)", -2);
    }

    private static void bears() {
        Trial.of(26, "The most DISHES that can still be served at none of which a GUEST goes HUNGRY: how many")
            .kitchen(TEN).kitchen("G-;G-c;G-abcdefgh;G-ac;G-b;G-d").tell("bears(0)", 10, 0, 1, 2, 3, 4, 5, 6, 7, 8, 9)
            .tell("bears(1)", 4, 0, 1, 2, 3).tell("bears(2)", 0).tell("bears(3)", 0).tell("bears(4)", 3, 7, 8, 9)
            .tell("bears(5)", 10, 0, 1, 2, 3, 4, 5, 6, 7, 8, 9).serve(7, 0).tell("bears(1)", 3, 1, 2, 3)
            .tell("bears(4)", 2, 8, 9).serve(8, 9).tell("bears(4)", 0);
        Trial.of(26, "the ROW: they: the least row of as many.").kitchen("ab1;b1;bc1;c1;Gabc-a;G-c").tell("bears(0)", 3, 1, 2, 3)
            .tell("bears(1)", 2, 0, 1).serve(3).tell("bears(0)", 2, 2, 1).tell("bears(1)", 0);
        Trial.of(26, "NONE: none such.").kitchen("a1").refuse("bears(0)", NONE).kitchen("G-;G-").tell("bears(1)", 1, 0)
            .outside("bears(*)", NONE, 0, 1).kitchen("G-;G-;G-;G-").tell("bears(5)", 1, 0).refuse("bears(6)", NONE);
    }

    private static void beside() {
        Trial t = Trial.of(27, "DISHES (bits) that have SHARE or more STUFFS in common with a DISH (not itself).");
        t.kitchen("abcdefgh1;abcdefg1;abcd1H;ab1;h1;abcdefgh1H;a1;a1;a1;b1").ask("beside(0)", 1022).ask("beside(9)", 47);
        t.ask("law(0, 2)", 1).ask("beside(0)", 46).ask("law(0, 3)", 2).ask("beside(0)", 38).ask("law(0, 4)", 3);
        t.ask("beside(2)", 35).ask("law(0, 5)", 4).ask("beside(2)", 0).ask("beside(0)", 34).ask("law(0, 7)", 5);
        t.ask("beside(0)", 34).ask("law(0, 8)", 7).ask("beside(0)", 32).ask("beside(5)", 1).ask("beside(1)", 0);
        t.ask("law(2, 2)", 0).ask("store(0, 0)", 99).ask("law(1, 1)", 9).ask("beside(0)", 32);
        Trial.of(27, "NONE: none such.").refuse("beside(0)", NONE).kitchen(RING).ask("beside(4)", 0)
            .outside("beside(*)", NONE, 0, 4);
    }

    private static void parts() {
        Trial.of(28, "How many parts there are of DISHES that hang together by beside()").tell("parts()", 0).kitchen("a1")
            .tell("parts()", 1, 1).kitchen("h1;ab1").tell("parts()", 2, 5, 2).kitchen("bh1").tell("parts()", 1, 15)
            .ask("law(0, 2)", 1).tell("parts()", 4, 1, 2, 4, 8).kitchen("abc1;bch1").tell("parts()", 3, 1, 2, 60);
        Trial.of(28, "How many parts there are of DISHES that hang together by beside()").kitchen(TEN).tell("parts()", 1, 1023)
            .ask("law(0, 2)", 1).tell("parts()", 3, 15, 112, 896).ask("law(0, 3)", 2)
            .tell("parts()", 10, 1, 2, 4, 8, 16, 32, 64, 128, 256, 512);
        Trial.of(28, "How many parts there are of DISHES that hang together by beside()")
            .kitchen("h1;gh1;fg1;ef1;de1;cd1;bc1;ab1;a1;a1").tell("parts()", 1, 1023).serve(0).ask("store(0, 0)", 99)
            .tell("parts()", 1, 1023);
        Trial.of(28, "the ROW: of each its DISHES (bits), that with the first DISH first, and so on.").kitchen("c1;a1;b1;a1;c1")
            .tell("parts()", 3, 17, 10, 4).kitchen("bc1").tell("parts()", 2, 53, 10);
    }

    private static void rare() {
        Trial.of(29, "The STUFF in the fewest DISHES (in one at least; of equal ones the first): it").kitchen("h1")
            .tell("rare()", 7, 1).kitchen("gh1").tell("rare()", 6, 2).kitchen("g1").tell("rare()", 6, 6).kitchen("abh1")
            .tell("rare()", 0, 8).kitchen("a1").tell("rare()", 1, 8);
        Trial.of(29, "The STUFF in the fewest DISHES (in one at least; of equal ones the first): it")
            .kitchen("b1;b1;b1;b1;b1;b1;b1;b1;b1;b1").tell("rare()", 1, 1023).serve(0).ask("store(1, 0)", 99)
            .tell("rare()", 1, 1023);
        Trial.of(29, "the ROW: DISHES (bits).").kitchen("ab1;b1;a1;abc1;c1;abc1").tell("rare()", 2, 56);
        Trial.of(29, "-2: no DISHES.").refuse("rare()", -2).kitchen("G-").refuse("rare()", -2).tell("parts()", 0)
            .refuse("rare()", -2).kitchen("a1").tell("rare()", 0, 1);
    }

    private static void round() {
        Trial.of(30, "The most DISHES of a BANQUET from nothing on that is a ROUND").kitchen(RING).tell("round()", 4, 0, 1, 2, 3)
            .serve(4).tell("round()", 4, 0, 1, 2, 3).ask("law(2, 1)", 0).tell("round()", 4, 0, 1, 2, 3)
            .ask("store(0, 1)", 99).refuse("round()", -2);
        Trial.of(30, "The most DISHES of a BANQUET from nothing on that is a ROUND").kitchen(TEN)
            .tell("round()", 10, 0, 1, 2, 3, 4, 5, 6, 7, 8, 9).ask("law(1, 3)", 9).tell("round()", 4, 0, 1, 4, 7)
            .ask("law(1, 2)", 3).tell("round()", 3, 0, 4, 7);
    }

    private static void roundEdges() {
        Trial.of(30, "the last one has SHARE or more STUFFS in common with the first").kitchen("abc1;bcd1;acd1;ad1")
            .tell("round()", 4, 0, 1, 2, 3).ask("law(0, 2)", 1).tell("round()", 3, 0, 1, 2).ask("law(0, 3)", 2)
            .refuse("round()", -2);
        Trial.of(30, "the last one has SHARE or more STUFFS in common with the first").kitchen("a1;ab1;b1")
            .refuse("round()", -2).kitchen("ab1").tell("round()", 4, 0, 1, 2, 3);
        Trial.of(30, "(three DISHES at least): how many").kitchen("a1").refuse("round()", -2).kitchen("a1").refuse("round()", -2)
            .kitchen("a1").tell("round()", 3, 0, 1, 2).ask("store(0, 3)", 99).tell("round()", 3, 0, 1, 2)
            .ask("store(0, 2)", 3).refuse("round()", -2);
        Trial.of(30, "the ROW: they: the least row of as many.").kitchen("h1;ab1;ac1;bc1;abc1H")
            .tell("round()", 4, 1, 2, 3, 4).ask("law(2, 1)", 0).tell("round()", 4, 1, 2, 3, 4).ask("law(2, 2)", 1)
            .tell("round()", 3, 1, 4, 2).kitchen("abc1H;abc1").tell("round()", 5, 1, 4, 2, 5, 3).ask("law(2, 0)", 2)
            .tell("round()", 6, 1, 2, 3, 4, 5, 6);
        Trial.of(30, "-2: there is none.").refuse("round()", -2).kitchen("a1;b1;c1;d1").refuse("round()", -2)
            .kitchen("ab1").refuse("round()", -2).kitchen("bc1").tell("round()", 3, 1, 4, 5).ask("law(1, 2)", 9)
            .refuse("round()", -2);
    }

    private static void shut() {
        Trial t = Trial.of(31, "DISHES (bits) that are in no BANQUET from nothing on of more than n (0 .. 9).").kitchen(RING);
        int[] shut = {0, 16, 16, 16, 31, 31, 31, 31, 31, 31};
        for (int n = 0; n < 10; n++) t.ask("shut(" + n + ")", shut[n]);
        t.serve(4).ask("shut(0)", 0).ask("shut(1)", 16).ask("store(4, 0)", 99).ask("shut(0)", 16).ask("law(0, 2)", 1);
        t.ask("shut(1)", 31).ask("shut(0)", 16);
        t = Trial.of(31, "DISHES (bits) that are in no BANQUET from nothing on of more than n (0 .. 9).").ask("shut(0)", 0);
        t.kitchen(TEN).ask("shut(0)", 0).ask("shut(9)", 0).ask("store(2, 5)", 99).ask("shut(9)", 1023).ask("shut(8)", 0);
        t.ask("store(2, 0)", 5).ask("shut(0)", 1008).ask("shut(3)", 1008).ask("shut(4)", 1023);
        Trial.of(31, "NONE: another n.").kitchen("a1").outside("shut(*)", NONE, 0, 9).ask("shut(0)", 0).ask("shut(9)", 1);
    }
}
