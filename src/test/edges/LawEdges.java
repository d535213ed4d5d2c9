/** Each bound of the law, of stores and of the banquet as it is, on all the calls that ask what can be. */
final class LawEdges {
    private static final int NONE = -1;
    private static final String HEATS = "a1;a2H;a4;G-";

    private LawEdges() {
    }

    static void all() {
        noHeat();
        heatOne();
        heatTwo();
        share();
        times();
        stores();
        banquet();
        oneBehindTheOther();
    }

    private static void noHeat() {
        Trial.ofTerms("2: HEAT 0 .. 2 (0)").kitchen(HEATS).menu(0, "BAC").menu(1, "?B?").tell("longest()", 3, 0, 1, 2)
            .ask("ways(2)", 6).ask("ways(3)", 6).tell("between(1, 0)", 3, 1, 2, 0).tell("shortest(1, 0)", 2, 1, 0)
            .tell("bears(0)", 3, 0, 1, 2).tell("round()", 3, 0, 1, 2).ask("shut(2)", 0).tell("best(2, 9)", 1, 0, 0, 1)
            .tell("fair(3, 9)", 1, 0, 0, 1, 2).tell("cheap(2)", 3, 0, 1).tell("dear(2)", 6, 1, 2).tell("game()", 1, 0, 3)
            .tell("greedy()", 0, 3).tell("mend(0, -1)", 0, 1, 0, 2).tell("fills(1)", 2, 0, 1, 2).ask("sure(1, 0)", 0)
            .tell("made()", 0, 0);
    }

    private static void heatOne() {
        Trial.ofTerms("by HEAT 1 no cold DISH is behind a HOT one (anywhere ahead)").kitchen(HEATS).ask("law(2, 1)", 0)
            .menu(0, "BAC").menu(1, "?B?").menu(2, "??B").tell("longest()", 3, 0, 2, 1).ask("ways(1)", 3).ask("ways(2)", 4)
            .ask("ways(3)", 2).refuse("between(1, 0)", -2).refuse("shortest(1, 2)", -2).tell("between(0, 1)", 3, 0, 2, 1)
            .tell("shortest(0, 1)", 2, 0, 1).tell("bears(0)", 3, 0, 2, 1).tell("round()", 3, 0, 2, 1).ask("shut(2)", 0)
            .tell("best(3, 9)", 1, 0, 0, 2, 1).tell("fair(3, 9)", 1, 0, 0, 2, 1).tell("cheap(3)", 7, 0, 2, 1)
            .tell("dear(2)", 6, 2, 1).tell("game()", 1, 1, 1).tell("greedy()", 1, 2).tell("mend(0, -1)", 2, 2, 0, 1)
            .tell("fills(1)", 0).tell("fills(2)", 2, 0, 2, 1).ask("sure(2, 2)", 2).ask("sure(2, 0)", 0).tell("made()", 0, 0)
            .serve(1).tell("longest()", 0).ask("ways(1)", 0).refuse("best(1, 9)", -2).refuse("dear(1)", -2)
            .tell("game()", 0, NONE, 0).tell("greedy()", 1, 0).tell("between(0, 1)", 3, 0, 2, 1);
        Trial.ofTerms("by HEAT 1 no cold DISH is behind a HOT one (anywhere ahead)").kitchen("a1H;a1H;a1").ask("law(2, 1)", 0)
            .serve(0, 1).tell("longest()", 0).ask("can()", 0).ask("back()", 1).tell("longest()", 1, 1).ask("can()", 2)
            .menu(0, "ABC").tell("look(0)", 2, -4, 2, 0).ask("shut(2)", 0).tell("longest()", 1, 1);
        Trial.ofTerms("by HEAT 1 no cold DISH is behind a HOT one (anywhere ahead)").kitchen("a1H;ac2H;a4H;a8;G-c")
            .ask("law(2, 1)", 0).menu(0, "??A?").menu(1, "DA?B").tell("bears(0)", 3, 3, 0, 2).tell("cheap(2)", 5, 0, 2)
            .tell("cheap(3)", 13, 3, 0, 2).refuse("cheap(4)", -2).tell("fills(0)", 2, 3, 1, 0, 2).ask("sure(0, 0)", 8)
            .ask("sure(0, 2)", 1).ask("sure(0, 1)", 0).tell("fills(1)", 1, 3, 0, 2, 1).tell("longest()", 4, 3, 0, 1, 2)
            .serve(3, 2).tell("bears(0)", 1, 0).ask("ways(2)", 2).ask("ways(3)", 0).tell("between(1, 0)", 3, 1, 2, 0)
            .tell("shortest(3, 1)", 2, 3, 1).tell("round()", 4, 3, 0, 1, 2);
    }

    private static void heatTwo() {
        Trial.ofTerms("by HEAT 2 of two one behind the other just one is HOT").kitchen(HEATS).ask("law(2, 2)", 0).menu(0, "BAC")
            .menu(1, "???").tell("longest()", 3, 0, 1, 2).ask("ways(1)", 3).ask("ways(2)", 4).ask("ways(3)", 2)
            .tell("between(0, 2)", 3, 0, 1, 2).tell("shortest(0, 2)", 3, 0, 1, 2).tell("between(1, 0)", 2, 1, 0)
            .tell("bears(0)", 3, 0, 1, 2).tell("round()", 3, 0, 1, 2).ask("shut(2)", 0).tell("best(3, 9)", 1, 0, 0, 1, 2)
            .tell("cheap(2)", 3, 0, 1).tell("dear(2)", 6, 1, 2).tell("game()", 1, 0, 3).tell("greedy()", 0, 3)
            .tell("mend(0, -1)", 2, 0, 1, 2).tell("fills(1)", 2, 0, 1, 2).ask("sure(1, 1)", 2).ask("sure(1, 0)", 0)
            .tell("made()", 0, 0).serve(0).tell("longest()", 2, 1, 2).tell("game()", 0, NONE, 2).tell("greedy()", 1, 2)
            .refuse("best(3, 9)", -2).serve(1).tell("longest()", 1, 2);
    }

    private static void share() {
        Trial.ofTerms("It is lawful, if each two one behind the other have SHARE or more STUFFS in common")
            .kitchen("abc1;ae4;abd2;G-").menu(0, "AB").menu(1, "A?").tell("longest()", 3, 0, 1, 2).ask("law(0, 2)", 1)
            .tell("longest()", 2, 0, 2).ask("ways(2)", 2).ask("ways(3)", 0).tell("between(2, 0)", 2, 2, 0)
            .refuse("between(0, 1)", -2).refuse("shortest(1, 2)", -2).tell("bears(0)", 2, 0, 2).refuse("round()", -2)
            .ask("shut(1)", 2).tell("best(2, 9)", 1, 0, 0, 2).refuse("fair(3, 9)", -2).tell("cheap(2)", 3, 0, 2)
            .tell("dear(2)", 3, 0, 2).tell("game()", 1, 1, 1).tell("greedy()", 1, 2).tell("mend(0, -1)", 1, 0, 2)
            .tell("fills(1)", 1, 0, 2).ask("sure(1, 1)", 4).tell("parts()", 2, 5, 2).ask("beside(0)", 4)
            .tell("made()", 3, 19).ask("law(0, 3)", 2).tell("longest()", 1, 0).ask("ways(2)", 0).tell("game()", 1, 0, 1)
            .tell("fills(1)", 0).ask("sure(1, 0)", 0).refuse("mend(0, -1)", -2);
    }

    private static void times() {
        Trial.ofTerms("no STUFF is in more than TIMES of its DISHES").kitchen("ab1;b2;ab4;a8;G-").menu(0, "AC").menu(1, "??")
            .tell("longest()", 4, 0, 1, 2, 3).ask("law(1, 2)", 9).tell("longest()", 3, 1, 0, 3).ask("ways(4)", 0)
            .ask("ways(3)", 4).tell("between(1, 3)", 3, 1, 0, 3).tell("bears(0)", 3, 1, 0, 3).refuse("round()", -2)
            .ask("shut(2)", 0).ask("shut(3)", 15).tell("best(3, 99)", 1, 0, 1, 0, 3).tell("cheap(3)", 11, 1, 0, 3)
            .tell("dear(3)", 14, 1, 2, 3).refuse("fair(4, 99)", -2).tell("mend(0, -1)", 0, 0, 2).ask("law(1, 1)", 2)
            .tell("longest()", 1, 0).ask("ways(2)", 0).tell("game()", 1, 0, 1).tell("greedy()", 0, 1)
            .refuse("mend(0, -1)", -2).tell("fills(1)", 0).ask("sure(1, 0)", 0).refuse("made()", -2);
    }

    private static void stores() {
        Trial.ofTerms("nor in more than its STORE").kitchen("ab1;b2;ab4;a8;G-").menu(0, "AC").menu(1, "??")
            .ask("store(0, 2)", 99).ask("store(1, 2)", 99).tell("longest()", 3, 1, 0, 3).ask("ways(3)", 4).ask("ways(4)", 0)
            .tell("dear(3)", 14, 1, 2, 3).ask("shut(2)", 0).ask("store(0, 1)", 2).tell("longest()", 2, 0, 1)
            .tell("mend(0, -1)", 1, 0, 1).tell("fills(1)", 4, 0, 1).tell("game()", 1, 3, 1).tell("greedy()", 1, 2)
            .refuse("between(1, 3)", -2).tell("between(1, 2)", 2, 1, 2).refuse("round()", -2).ask("shut(1)", 8)
            .ask("store(0, 0)", 1).tell("longest()", 1, 1).ask("ways(1)", 1).tell("game()", 1, 1, 1).tell("greedy()", 0, 1)
            .ask("shut(0)", 13).refuse("made()", -2);
    }

    private static void banquet() {
        Trial.ofTerms("THE BANQUET: what was served so far (at first none)").kitchen("ab1;b2;ab4;a8;c16").serve(1)
            .tell("longest()", 3, 0, 2, 3).ask("ways(1)", 2).ask("ways(3)", 4).tell("best(1, 99)", 1, 0, 0)
            .tell("cheap(1)", 1, 0).tell("dear(1)", 4, 2).tell("game()", 1, 0, 3).tell("greedy()", 0, 3)
            .tell("between(4, 4)", 1, 4).tell("round()", 4, 0, 1, 2, 3).ask("shut(1)", 16).tell("parts()", 2, 15, 16)
            .tell("rare()", 2, 16).serve(0, 3).ask("ways(1)", 1).tell("game()", 1, 2, 1).tell("longest()", 1, 2).serve(2)
            .tell("longest()", 0).tell("game()", 0, NONE, 0).tell("greedy()", 1, 0);
    }

    private static void oneBehindTheOther() {
        Trial t = Trial.ofTerms("ROW: numbers told last by a call that says so").kitchen("ab10;bc5;cd7;ad9;e3;Ga-c;Gbd-");
        t.menu(0, "ACB").menu(1, "?").tell("best(1, 3)", 1, 0, 4).tell("longest()", 4, 0, 1, 2, 3);
        t.tell("fair(1, 9)", 1, 1, 3).tell("dear(1)", 10, 0).tell("bears(0)", 2, 0, 3).tell("longest()", 4, 0, 1, 2, 3);
        t.tell("cheap(1)", 3, 4).tell("round()", 4, 0, 1, 2, 3).tell("between(0, 2)", 3, 0, 1, 2).tell("dear(4)", 31, 0, 1, 2, 3);
        t.tell("shortest(0, 1)", 2, 0, 1).tell("best(4, 31)", 1, 6, 0, 1, 2, 3).tell("made()", 2, 17).tell("longest()", 4, 0, 1, 2, 3);
        t.tell("fills(1)", 5, 0).tell("mend(0, -1)", 1, 3, 2, 1).tell("longest()", 4, 0, 1, 2, 3);
    }
}
