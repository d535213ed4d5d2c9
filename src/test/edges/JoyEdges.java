/** The edges of promises 32 to 37: joy, and two cooks by turns. */
final class JoyEdges {
    private static final int NONE = -1;
    private static final String TEN = TermsEdges.TEN;
    private static final String SIX = TermsEdges.SIX;
    /** A ring of four and a lone dish; one guest loves a and bars c, one loves b and d. */
    private static final String RING = "ab10;bc5;cd7;ad9;e3;Ga-c;Gbd-";

    private JoyEdges() {
    }

    static void all() {
        best();
        bestRow();
        bestRefused();
        fair();
        fairRefused();
        cheap();
        dear();
        game();
        gameRow();
        greedy();
        greedyRow();
    }

    private static void best() {
        Trial.of(32, "The most JOY (of all GUESTS in all DISHES served further on)").kitchen(RING).tell("best(4, 999)", 1, 6, 0, 1, 2, 3)
            .serve(0).tell("best(1, 999)", 1, 2, 3).tell("best(3, 999)", 1, 4, 1, 2, 3).serve(3)
            .tell("best(0, 999)", 1, 0).tell("best(1, 999)", 1, 1, 2);
        Trial.of(32, "with just n (0 .. 10) more DISHES").kitchen(TEN).kitchen("Gab-").tell("best(0, 999)", 1, 0)
            .tell("best(10, 999)", 1, 14, 0, 1, 2, 3, 4, 5, 6, 7, 8, 9).tell("best(1, 999)", 1, 2, 0)
            .tell("best(9, 999)", 1, 13, 0, 1, 2, 3, 4, 5, 6, 7, 8).serve(9)
            .tell("best(9, 999)", 1, 13, 0, 1, 2, 3, 4, 5, 6, 7, 8).refuse("best(10, 999)", -2);
        Trial.of(32, "of at most purse (0 .. 999) COST together: 1").kitchen("a0;a1;a5;a98;a99;Ga-").tell("best(1, 0)", 1, 1, 0)
            .read("rule()", "d", 0).tell("best(1, 0)", 1, 0, 0).tell("best(1, 1)", 1, 1, 1).tell("best(1, 4)", 1, 1, 1)
            .tell("best(1, 5)", 1, 2, 2).tell("best(1, 97)", 1, 2, 2).tell("best(1, 98)", 1, 3, 3)
            .tell("best(1, 99)", 1, 4, 4).refuse("best(2, 0)", -2).tell("best(2, 1)", 1, 1, 0, 1)
            .tell("best(5, 203)", 1, 10, 0, 1, 2, 3, 4).refuse("best(5, 202)", -2).tell("best(5, 999)", 1, 10, 0, 1, 2, 3, 4)
            .serve(4).tell("best(1, 98)", 1, 3, 3).tell("best(4, 104)", 1, 6, 0, 1, 2, 3).refuse("best(4, 103)", -2);
        Trial.of(32, "of at most purse (0 .. 999) COST together: 1").kitchen(TEN).ask("sheet(2, 10, 99, 0)", 990)
            .tell("best(10, 999)", 1, 0, 0, 1, 2, 3, 4, 5, 6, 7, 8, 9).tell("best(10, 990)", 1, 0, 0, 1, 2, 3, 4, 5, 6, 7, 8, 9)
            .refuse("best(10, 989)", -2).tell("best(1, 99)", 1, 0, 0).refuse("best(1, 98)", -2).tell("best(0, 0)", 1, 0);
    }

    private static void bestRow() {
        Trial.of(32, "the ROW: it (may be below 0), then DISHES").kitchen(TEN).kitchen(SIX).read("rule()", "-999", 0)
            .tell("best(10, 999)", 1, -59940, 0, 1, 2, 3, 4, 5, 6, 7, 8, 9).tell("best(1, 999)", 1, -5994, 0)
            .tell("best(0, 999)", 1, 0).read("rule()", "999", 0)
            .tell("best(10, 999)", 1, 59940, 0, 1, 2, 3, 4, 5, 6, 7, 8, 9).read("rule()", "0-d", 0)
            .tell("best(2, 999)", 1, -6, 0, 1).read("rule()", "d-4", 0).tell("best(2, 999)", 1, 54, 8, 9)
            .tell("best(10, 999)", 1, 30, 0, 1, 2, 3, 4, 5, 6, 7, 8, 9);
        Trial.of(32, ": the least row with so much.").kitchen("a3;ab3;b3;c3;Gb-").tell("best(1, 9)", 1, 1, 1)
            .tell("best(2, 9)", 1, 2, 1, 2).tell("best(3, 9)", 1, 2, 0, 1, 2).read("rule()", "d=2", 0)
            .tell("best(2, 9)", 1, 1, 1, 2).tell("best(1, 9)", 1, 1, 2).read("rule()", "0", 0).tell("best(2, 9)", 1, 0, 0, 1);
    }

    private static void bestRefused() {
        Trial.of(32, "-2: there is none").kitchen("a1;a1;b1").tell("best(1, 1)", 1, 0, 0).refuse("best(3, 999)", -2)
            .refuse("best(2, 1)", -2).refuse("best(1, 0)", -2).refuse("best(10, 0)", -2).ask("store(0, 0)", 99)
            .tell("best(1, 1)", 1, 0, 2).ask("store(1, 0)", 99).refuse("best(1, 1)", -2).tell("best(0, 0)", 1, 0);
        Trial.of(32, "NONE: others.").kitchen("a1;Ga-").tell("best(1, 1)", 1, 1, 0).outside("best(*, 1)", NONE, 0, 10)
            .outside("best(1, *)", NONE, 0, 999).outside("best(*, 1000)", NONE, 0, 10).tell("best(0, 999)", 1, 0);
    }

    private static void fair() {
        Trial.of(33, "The same for the JOY of the GUEST that has the least of it").kitchen(RING).tell("fair(1, 999)", 1, 1, 0)
            .tell("fair(2, 999)", 1, 2, 0, 3).tell("fair(4, 999)", 1, 2, 0, 1, 2, 3).tell("fair(2, 18)", 1, 1, 0, 1)
            .tell("fair(0, 0)", 1, 0).tell("fair(1, 9)", 1, 1, 3).tell("fair(1, 8)", 1, 0, 1).kitchen("G-")
            .tell("fair(2, 999)", 1, 0, 0, 1).read("rule()", "g-2", 0).tell("fair(2, 999)", 1, -4, 0, 1)
            .read("rule()", "5-c", 0).tell("fair(1, 999)", 1, 2, 4).tell("fair(2, 999)", 1, -2, 1, 2);
        Trial.of(33, "(in the DISHES served further on): likewise.").kitchen("a1;a2;ab3;b4;Ga-;Gb-").serve(0, 1)
            .tell("fair(1, 9)", 1, 1, 2).tell("fair(2, 9)", 1, 1, 2, 3).tell("fair(2, 7)", 1, 1, 2, 3).refuse("fair(2, 6)", -2)
            .tell("fair(0, 0)", 1, 0);
        Trial.of(33, "(in the DISHES served further on): likewise.").kitchen(TEN).kitchen(SIX).read("rule()", "-999", 0)
            .tell("fair(10, 10)", 1, -9990, 0, 1, 2, 3, 4, 5, 6, 7, 8, 9).refuse("fair(10, 9)", -2).read("rule()", "999", 0)
            .tell("fair(10, 999)", 1, 9990, 0, 1, 2, 3, 4, 5, 6, 7, 8, 9).read("rule()", "(g=5)*-d", 0)
            .tell("fair(1, 999)", 1, 0, 0).read("rule()", "(g=5)*(0-(d<9))", 0).tell("fair(1, 999)", 1, 0, 9)
            .read("rule()", "(g=0)*(0-(d<9))", 0).tell("fair(1, 999)", 1, 0, 9);
    }

    private static void fairRefused() {
        Trial.of(33, "-2 also without GUESTS.").kitchen("a1").refuse("fair(0, 0)", -2).refuse("fair(1, 999)", -2)
            .outside("fair(*, 1)", NONE, 0, 10).outside("fair(1, *)", NONE, 0, 999).kitchen("G-")
            .tell("fair(1, 999)", 1, 0, 0).refuse("fair(2, 999)", -2).refuse("fair(10, 999)", -2).refuse("fair(1, 0)", -2)
            .outside("fair(*, 1)", NONE, 0, 10).outside("fair(1, *)", NONE, 0, 999);
    }

    private static void cheap() {
        Trial.of(34, "The least COST of n (0 .. 10) more DISHES at none of which anybody goes HUNGRY: it").kitchen(RING)
            .tell("cheap(0)", 0).tell("cheap(1)", 3, 4).tell("cheap(2)", 19, 0, 3).refuse("cheap(3)", -2).serve(1)
            .tell("cheap(1)", 10, 0).tell("cheap(2)", 19, 0, 3).tell("cheap(0)", 0).kitchen("G-a").refuse("cheap(1)", -2);
        Trial.of(34, "The least COST of n (0 .. 10) more DISHES at none of which anybody goes HUNGRY: it").kitchen(TEN)
            .tell("cheap(10)", 10, 0, 1, 2, 3, 4, 5, 6, 7, 8, 9).ask("sheet(2, 10, 99, 0)", 990)
            .tell("cheap(10)", 990, 0, 1, 2, 3, 4, 5, 6, 7, 8, 9).tell("cheap(1)", 99, 0).ask("sheet(2, 10, 99, -1)", 945)
            .tell("cheap(2)", 181, 8, 9).ask("sheet(3, 0, 0, 0)", -3).tell("cheap(2)", 0, 0, 1).kitchen("G-d;G-c;G-;G-;G-;G-")
            .tell("cheap(4)", 0, 0, 1, 2, 3).refuse("cheap(5)", -2).tell("cheap(0)", 0);
        Trial.of(34, "the ROW: DISHES: the least row with so little.").kitchen("a2;ab2;b2;a1;c9").tell("cheap(2)", 3, 0, 3)
            .tell("cheap(1)", 1, 3).tell("cheap(3)", 5, 0, 1, 3).tell("cheap(4)", 7, 0, 3, 1, 2);
        Trial.of(34, "-2: there is none").refuse("cheap(1)", -2).kitchen("a1;b1").tell("cheap(1)", 1, 0).refuse("cheap(2)", -2)
            .refuse("cheap(10)", -2).ask("store(0, 0)", 99).tell("cheap(1)", 1, 1).kitchen("G-b").refuse("cheap(1)", -2);
        Trial.of(34, "NONE: another n.").kitchen("a1").outside("cheap(*)", NONE, 0, 10).tell("cheap(0)", 0);
    }

    private static void dear() {
        Trial.of(35, "The greatest COST of n (0 .. 10) more DISHES: it").kitchen(RING).tell("dear(0)", 0).tell("dear(1)", 10, 0)
            .tell("dear(2)", 19, 0, 3).tell("dear(3)", 26, 0, 3, 2).tell("dear(4)", 31, 0, 1, 2, 3).refuse("dear(5)", -2)
            .serve(1).tell("dear(1)", 10, 0).tell("dear(3)", 26, 0, 3, 2).serve(2).tell("dear(1)", 9, 3);
        Trial.of(35, "The greatest COST of n (0 .. 10) more DISHES: it").kitchen(TEN).ask("sheet(2, 10, 99, 0)", 990)
            .tell("dear(10)", 990, 0, 1, 2, 3, 4, 5, 6, 7, 8, 9).tell("dear(0)", 0).ask("sheet(2, 10, 0, 1)", 45)
            .tell("dear(10)", 45, 0, 1, 2, 3, 4, 5, 6, 7, 8, 9).tell("dear(1)", 9, 9).ask("sheet(3, 0, 0, 0)", -3)
            .tell("dear(1)", 0, 0);
        Trial.of(35, "the ROW: DISHES: the least row with so much.").kitchen("a2;ab2;b2;a1;c2").tell("dear(1)", 2, 0)
            .tell("dear(2)", 4, 0, 1).tell("dear(3)", 6, 0, 1, 2).tell("dear(4)", 7, 0, 3, 1, 2);
        Trial.of(35, "-2: there is none").refuse("dear(1)", -2).kitchen("a1;b1").tell("dear(1)", 1, 0).refuse("dear(2)", -2)
            .refuse("dear(10)", -2).ask("store(0, 0)", 99).tell("dear(1)", 1, 1).ask("store(1, 0)", 99).refuse("dear(1)", -2);
        Trial.of(35, "NONE: another n.").kitchen("a1").outside("dear(*)", NONE, 0, 10).tell("dear(0)", 0);
    }

    private static void game() {
        Trial.of(36, "Two cooks serve in turn, from THE BANQUET as it is; who can't is shamed").tell("game()", 0, NONE, 0)
            .kitchen("a1").tell("game()", 1, 0, 1).serve(0).tell("game()", 0, NONE, 0).ask("back()", 0)
            .ask("store(0, 0)", 99).tell("game()", 0, NONE, 0);
        Trial.of(36, "1: who is on turn now can make it so that the other one is, 0: not").kitchen("a1;a1").tell("game()", 0, NONE, 2)
            .kitchen("a1").tell("game()", 1, 0, 3).serve(2).tell("game()", 0, NONE, 2).serve(0).tell("game()", 1, 1, 1)
            .ask("law(0, 2)", 1).tell("game()", 0, NONE, 0).ask("over()", 2).tell("game()", 1, 0, 1);
        Trial.of(36, "1: who is on turn now can make it so that the other one is, 0: not").kitchen(TEN)
            .tell("game()", 0, NONE, 10).serve(0).tell("game()", 1, 1, 9).serve(1, 2, 3, 4, 5, 6, 7, 8)
            .tell("game()", 1, 9, 1).serve(9).tell("game()", 0, NONE, 0);
    }

    private static void gameRow() {
        Trial.of(36, "the ROW: the first DISH with which, of those with which the fewest are served in the end (0: NONE)")
            .kitchen("a1;a1;b1;c1;a1").tell("game()", 1, 2, 1).ask("store(1, 0)", 99).tell("game()", 1, 3, 1)
            .ask("store(2, 0)", 99).tell("game()", 1, 0, 3).kitchen("a1").tell("game()", 0, NONE, 4);
        Trial.of(36, "how many more are served, if both do as well as can be").kitchen("ab1;bc1;bd1;de1;ef1").serve(0)
            .tell("game()", 0, NONE, 4);
        Trial.of(36, "(who is not shamed in the end as few as can be, the other one as many).").kitchen("ab1;bd1;ac1;de1;ef1")
            .serve(0).tell("game()", 1, 2, 1).ask("store(2, 0)", 99).tell("game()", 1, 1, 3).serve(1)
            .tell("game()", 0, NONE, 2);
        Trial.of(36, "(who is not shamed in the end as few as can be, the other one as many).")
            .kitchen("a1;ab1;ac1;bd1;ce1;ef1;fg1").serve(0).tell("game()", 0, NONE, 4);
    }

    private static void greedy() {
        Trial.of(37, "Who is on turn serves the DISH with the most JOY (of equal ones the first)").kitchen("a1;b2;c3")
            .tell("greedy()", 0, 1).kitchen("b4;Gc-").tell("greedy()", 0, 1).kitchen("Gb-").tell("greedy()", 1, 2)
            .kitchen("Gc-").tell("greedy()", 0, 1).read("rule()", "0-(d=1)*9", 0).tell("greedy()", 0, 1)
            .read("rule()", "d=3", 0).tell("greedy()", 1, 2).read("rule()", "-d", 0).tell("greedy()", 0, 1)
            .read("rule()", "-(d=0)", 0).tell("greedy()", 1, 2).read("rule()", "999*(d<2)", 0).tell("greedy()", 0, 1);
        Trial.of(37, "the other one plays as well as can be to shame it: 1 if the first is shamed, else 0").tell("greedy()", 1, 0)
            .kitchen("a1").tell("greedy()", 0, 1).serve(0).tell("greedy()", 1, 0).kitchen("a1").tell("greedy()", 0, 1)
            .ask("back()", 0).tell("greedy()", 1, 2).kitchen("ab1").tell("greedy()", 0, 3).kitchen("ac1;cd1")
            .tell("greedy()", 1, 4);
    }

    private static void greedyRow() {
        Trial.of(37, "the ROW: how many more are served so").kitchen(TEN).tell("greedy()", 1, 10).serve(0).tell("greedy()", 0, 9)
            .serve(1, 2, 3, 4, 5, 6, 7, 8).tell("greedy()", 0, 1).serve(9).tell("greedy()", 1, 0);
        Trial.of(37, "(the other one: if it can shame it the fewest, else the most).").kitchen("a1;ab1;ac1;cd1;de1")
            .tell("greedy()", 0, 5).ask("store(1, 0)", 99).tell("greedy()", 1, 4);
        Trial.of(37, "(the other one: if it can shame it the fewest, else the most).").kitchen("a1;ab1;ac1;b1;cd1;de1;ef1")
            .tell("greedy()", 1, 4);
    }
}
