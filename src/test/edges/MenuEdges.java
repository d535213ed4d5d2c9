/** The edges of promises 38 to 45: mends, hearths, what somebody died of, a dish made. */
final class MenuEdges {
    private static final int NONE = -1;
    private static final String TEN = TermsEdges.TEN;
    /** A ring of four and a lone dish. */
    private static final String RING = "ab10;bc5;cd7;ad9;e3";

    private MenuEdges() {
    }

    static void all() {
        mend();
        mendRow();
        mendRefused();
        fills();
        fillsNone();
        sure();
        sureRefused();
        hearths();
        late();
        lateRow();
        lateRefused();
        poison();
        poisonRefused();
        eats();
        made();
        madeLeast();
        madeHeat();
        madeBetween();
        madeNone();
    }

    private static void mend() {
        Trial.of(38, "A MENU (without ?) with the fewest of its DISHES changed for others, as many DISHES as it has, so that it is lawful")
            .kitchen(RING).menu(0, "A").tell("mend(0, -1)", 0, 0).menu(0, "AB").tell("mend(0, -1)", 0, 0, 1).menu(0, "AC")
            .tell("mend(0, -1)", 1, 0, 1).menu(0, "EE").tell("mend(0, -1)", 2, 0, 1).menu(0, "AEC")
            .tell("mend(0, -1)", 1, 0, 1, 2).menu(0, "ECDA").tell("mend(0, -1)", 1, 1, 2, 3, 0).serve(4)
            .tell("mend(0, -1)", 1, 1, 2, 3, 0);
        Trial.of(38, "A MENU (without ?) with the fewest of its DISHES changed for others, as many DISHES as it has, so that it is lawful")
            .kitchen(TEN).menu(0, "ABCDEFGHIJ").tell("mend(0, -1)", 0, 0, 1, 2, 3, 4, 5, 6, 7, 8, 9).menu(1, "AAAAAAAAAA")
            .tell("mend(1, -1)", 9, 0, 1, 2, 3, 4, 5, 6, 7, 8, 9).menu(1, "AJJJJJJJJJ")
            .tell("mend(1, -1)", 8, 0, 1, 2, 3, 4, 5, 6, 7, 8, 9).menu(2, "JJ").tell("mend(2, -1)", 1, 0, 9);
        Trial t = Trial.of(38, "without a STUFF (none of it left; NONE: with STORES as they are): how many changed");
        t.kitchen("a1;b1;c1;d1;e1;f1;g1;h1");
        for (int s = 0; s < 8; s++) t.menu(0, "" + (char) ('A' + s)).tell("mend(0, " + s + ")", 1, s == 0 ? 1 : 0);
        t.tell("mend(0, -1)", 0, 7).ask("store(7, 0)", 99).tell("mend(0, -1)", 1, 0).tell("mend(0, 0)", 1, 1);
        t.ask("store(7, 1)", 0).ask("store(0, 0)", 99);
        Trial.of(38, "without a STUFF (none of it left; NONE: with STORES as they are): how many changed").kitchen(RING)
            .menu(1, "AB").tell("mend(1, 7)", 0, 0, 1).tell("mend(1, 0)", 1, 2, 1).tell("mend(1, 2)", 1, 0, 3)
            .tell("mend(1, 1)", 2, 2, 3).ask("store(1, 98)", 99).ask("store(0, 1)", 99).menu(1, "DAB")
            .tell("mend(1, -1)", 1, 3, 2, 1).ask("store(0, 99)", 1);
    }

    private static void mendRow() {
        Trial.of(38, "the ROW: the new one: of as few the least row").kitchen("ab1;ab1;ab1;bc1;c1").menu(0, "AA")
            .tell("mend(0, -1)", 1, 0, 1).menu(0, "CC").tell("mend(0, -1)", 1, 0, 2).menu(0, "DED")
            .tell("mend(0, -1)", 2, 0, 1, 3).menu(0, "CAA").tell("mend(0, -1)", 1, 2, 0, 1);
    }

    private static void mendRefused() {
        Trial.of(38, "-2: it can't be").kitchen(RING).menu(0, "ABC").tell("mend(0, -1)", 0, 0, 1, 2).refuse("mend(0, 0)", -2)
            .menu(1, "ABCDE").refuse("mend(1, -1)", -2).menu(1, "ABCDA").refuse("mend(1, -1)", -2).menu(1, "A")
            .ask("law(0, 8)", 1).refuse("mend(0, -1)", -2).tell("mend(1, 0)", 1, 1);
        Trial.of(38, "-2: it can't be").kitchen("a1").menu(0, "A").refuse("mend(0, 0)", -2).menu(1, "AAAAAAAAAA")
            .refuse("mend(1, -1)", -2).tell("mend(0, 1)", 0, 0).ask("store(0, 0)", 99).refuse("mend(0, -1)", -2);
        Trial.of(38, "-3: no such MENU, none laid down, or one with ?").kitchen(RING).menu(0, "AB").menu(1, "A?")
            .tell("mend(0, -1)", 0, 0, 1).outside("mend(*, -1)", -3, 0, 2).outside("mend(*, 7)", -3, 0, 2)
            .refuse("mend(1, -1)", -3).refuse("mend(1, 0)", -3).refuse("mend(2, -1)", -3).read("menu(0)", "", 0)
            .refuse("mend(0, 7)", -3);
        Trial.of(38, "NONE: another number than NONE, 0 .. 7.").refuse("mend(0, 8)", NONE).refuse("mend(0, 7)", -3)
            .kitchen(RING).menu(0, "AB").menu(1, "?").outside("mend(0, *)", NONE, -1, 7).outside("mend(1, *)", NONE, -1, 7)
            .outside("mend(2, *)", NONE, -1, 7).outside("mend(3, *)", NONE, -1, 7).tell("mend(0, 7)", 0, 0, 1);
    }

    private static void fills() {
        Trial.of(39, "In how many ways ? of a MENU can be DISHES so that it is lawful").kitchen(RING).menu(0, "?").tell("fills(0)", 5, 0)
            .menu(0, "??").tell("fills(0)", 8, 0, 1).menu(0, "E?").tell("fills(0)", 0).menu(0, "A?C")
            .tell("fills(0)", 2, 0, 1, 2).menu(0, "?E").tell("fills(0)", 0).menu(0, "?A").tell("fills(0)", 2, 1, 0)
            .serve(0, 1).tell("fills(0)", 2, 1, 0).ask("store(3, 0)", 99).tell("fills(0)", 1, 1, 0);
        Trial.of(39, "In how many ways ? of a MENU can be DISHES so that it is lawful").kitchen(TEN).menu(0, "??????????")
            .tell("fills(0)", 3628800, 0, 1, 2, 3, 4, 5, 6, 7, 8, 9).menu(0, "?????????").tell("fills(0)", 3628800, 0, 1, 2, 3, 4, 5, 6, 7, 8)
            .menu(0, "J????????A").tell("fills(0)", 40320, 9, 1, 2, 3, 4, 5, 6, 7, 8, 0).menu(0, "BCDEFGHIJ?")
            .tell("fills(0)", 1, 1, 2, 3, 4, 5, 6, 7, 8, 9, 0).menu(0, "ABCDEFGHI?").tell("fills(0)", 1, 0, 1, 2, 3, 4, 5, 6, 7, 8, 9);
        Trial.of(39, "In how many ways ? of a MENU can be DISHES so that it is lawful").kitchen(RING).menu(0, "AB")
            .tell("fills(0)", 1, 0, 1).menu(1, "AC").tell("fills(1)", 0).menu(2, "AA").tell("fills(2)", 0).menu(2, "E")
            .tell("fills(2)", 1, 4);
    }

    private static void fillsNone() {
        Trial.of(39, "the ROW: the least row of them (none without).").kitchen("ab1;c1;b1;a1;ab1").menu(0, "?E?")
            .tell("fills(0)", 6, 0, 4, 2).menu(1, "B?").tell("longest()", 4, 0, 2, 4, 3).tell("fills(1)", 0)
            .menu(1, "?????").tell("fills(1)", 0).menu(1, "????").tell("fills(1)", 12, 0, 2, 4, 3);
        Trial.of(39, "-3: no such MENU, none laid down.").kitchen("a1").menu(1, "?").tell("fills(1)", 1, 0)
            .outside("fills(*)", -3, 0, 2).refuse("fills(0)", -3).refuse("fills(2)", -3).read("menu(1)", "", 0)
            .refuse("fills(1)", -3);
    }

    private static void sure() {
        Trial.of(40, "DISHES (bits) that are at place k (0 .. 9) of a MENU in all these ways.").kitchen(RING).menu(0, "A?C?")
            .ask("sure(0, 0)", 1).ask("sure(0, 1)", 0).ask("sure(0, 2)", 4).ask("sure(0, 3)", 0).menu(1, "AB??")
            .ask("sure(1, 2)", 4).ask("sure(1, 3)", 8).menu(2, "?").ask("sure(2, 0)", 0).menu(2, "E").ask("sure(2, 0)", 16);
        Trial.of(40, "DISHES (bits) that are at place k (0 .. 9) of a MENU in all these ways.").kitchen(TEN)
            .menu(0, "ABCDEFGHI?").ask("sure(0, 9)", 512).ask("sure(0, 0)", 1).menu(1, "?BCDEFGHIJ").ask("sure(1, 0)", 1)
            .ask("sure(1, 9)", 512).menu(2, "??????????").ask("sure(2, 0)", 0).ask("sure(2, 9)", 0);
        Trial.of(40, "0 without any").kitchen(RING).menu(0, "E?").ask("sure(0, 0)", 0).ask("sure(0, 1)", 0).menu(1, "AC")
            .ask("sure(1, 0)", 0).ask("sure(1, 1)", 0).menu(1, "A").ask("sure(1, 0)", 1).ask("store(0, 0)", 99)
            .ask("sure(1, 0)", 0);
    }

    private static void sureRefused() {
        Trial.of(40, "-3: no such MENU, none laid down, no such place.").kitchen(TEN).menu(0, "A??").menu(2, "??????????")
            .outside("sure(*, 0)", -3, 0, 2).refuse("sure(1, 0)", -3).outside("sure(0, *)", -3, 0, 2)
            .refuse("sure(0, 9)", -3).outside("sure(2, *)", -3, 0, 9).refuse("sure(3, 10)", -3).ask("sure(0, 0)", 1)
            .ask("sure(0, 2)", 0);
    }

    private static void hearths() {
        Trial.of(41, "DISH k of a MENU (without ?; lawful or not) is to be ready at hour 10 and k: how many hearths at least")
            .kitchen("a1;a1+1;b1+9;c1+2").menu(0, "C").tell("hearths(0)", 1, 1).menu(0, "CCCCCCCCCC")
            .tell("hearths(0)", 9, 1, 2, 3, 4, 5, 6, 7, 8, 9, 10).menu(0, "AC").tell("hearths(0)", 1, 10, 2)
            .menu(0, "AAAAAAAAAA").tell("hearths(0)", 0, 10, 11, 12, 13, 14, 15, 16, 17, 18, 19).menu(0, "CCC")
            .tell("hearths(0)", 3, 1, 2, 3).menu(0, "AAAAAAAAAC").tell("hearths(0)", 1, 10, 11, 12, 13, 14, 15, 16, 17, 18, 10);
        Trial.of(41, "one for each DISH from HOURS ahead of that till then (that hour itself no more): how many").kitchen("a1;a1+1;b1+9;c1+2")
            .menu(0, "BB").tell("hearths(0)", 1, 9, 10).menu(0, "BD").tell("hearths(0)", 2, 9, 9).menu(0, "BAD")
            .tell("hearths(0)", 1, 9, 11, 10).menu(0, "BBBBBBBBBB").tell("hearths(0)", 1, 9, 10, 11, 12, 13, 14, 15, 16, 17, 18)
            .menu(0, "DDDDDDDDDD").tell("hearths(0)", 2, 8, 9, 10, 11, 12, 13, 14, 15, 16, 17).menu(0, "A").tell("hearths(0)", 0, 10)
            .menu(0, "B").tell("hearths(0)", 1, 9);
        Trial.of(41, "the ROW: the hour at which each is begun.").kitchen("a1;a1+1;b1+9;c1+2").menu(0, "ABCD")
            .tell("hearths(0)", 2, 10, 10, 3, 11).menu(1, "CABDAAAAAC").tell("hearths(1)", 3, 1, 11, 11, 11, 14, 15, 16, 17, 18, 10);
        Trial.of(41, "-3: no such MENU, none laid down, or one with ?.").kitchen("a1+3").menu(0, "A").menu(1, "A?")
            .tell("hearths(0)", 1, 7).outside("hearths(*)", -3, 0, 2).refuse("hearths(1)", -3).refuse("hearths(2)", -3)
            .read("menu(0)", "", 0).refuse("hearths(0)", -3);
    }

    private static void late() {
        Trial.of(42, "With h (1 .. 9) hearths, from hour 0 on").kitchen("a1+9;a1").menu(0, "AAAAAAAAAA")
            .tell("late(0, 1)", 71, 9, 18, 27, 36, 45, 54, 63, 72, 81, 90).tell("late(0, 2)", 27, 9, 9, 18, 18, 27, 27, 36, 36, 45, 45)
            .tell("late(0, 8)", 0, 9, 9, 9, 9, 9, 9, 9, 9, 18, 18).tell("late(0, 9)", 0, 9, 9, 9, 9, 9, 9, 9, 9, 9, 18)
            .menu(1, "A").tell("late(1, 1)", 0, 9).tell("late(1, 9)", 0, 9).menu(1, "B").tell("late(1, 1)", 0, 0);
        Trial.of(42, "DISHES are cooked in the order of the MENU, each as soon as it can be on the hearth that is free first (what is cooked may wait)")
            .kitchen("a1+9;a1+2;a1+5;a1").menu(0, "ABC").tell("late(0, 1)", 4, 9, 11, 16).tell("late(0, 2)", 0, 9, 2, 7)
            .tell("late(0, 3)", 0, 9, 2, 5).menu(0, "CBAB").tell("late(0, 2)", 0, 5, 2, 11, 7).menu(0, "CBABB")
            .tell("late(0, 2)", 0, 5, 2, 11, 7, 9).menu(0, "CCDB").tell("late(0, 2)", 0, 5, 5, 5, 7).menu(0, "ADD")
            .tell("late(0, 1)", 0, 9, 9, 9).tell("late(0, 2)", 0, 9, 0, 0);
    }

    private static void lateRow() {
        Trial.of(42, ": by how many hours (0 ..) all DISHES have to come later than at hour 10 and k, so that each is ready by then, at least")
            .kitchen("a1+9;a1+2;a1+1;a1").menu(0, "AC").tell("late(0, 1)", 0, 9, 10).menu(0, "AB").tell("late(0, 1)", 0, 9, 11)
            .menu(0, "ABC").tell("late(0, 1)", 0, 9, 11, 12).menu(0, "ABB").tell("late(0, 1)", 1, 9, 11, 13)
            .menu(0, "ABBDD").tell("late(0, 1)", 1, 9, 11, 13, 13, 13).menu(0, "ABBCDA").tell("late(0, 1)", 8, 9, 11, 13, 14, 14, 23)
            .menu(0, "AADDDDDDDD").tell("late(0, 1)", 7, 9, 18, 18, 18, 18, 18, 18, 18, 18, 18);
        Trial.of(42, "the ROW: the hour at which each is ready.").kitchen("a1+9;a1+1").menu(0, "BABABABABA")
            .tell("late(0, 1)", 31, 1, 10, 11, 20, 21, 30, 31, 40, 41, 50).menu(1, "B").tell("late(1, 1)", 0, 1);
    }

    private static void lateRefused() {
        Trial.of(42, "-3 as hearths()").kitchen("a1+3").menu(0, "A").menu(1, "A?").tell("late(0, 1)", 0, 3)
            .outside("late(*, 1)", -3, 0, 2).outside("late(*, 9)", -3, 0, 2).refuse("late(1, 1)", -3).refuse("late(2, 9)", -3)
            .read("menu(0)", "", 0).refuse("late(0, 1)", -3);
        Trial.of(42, "NONE: another h.").refuse("late(0, 0)", NONE).refuse("late(0, 10)", NONE).refuse("late(0, 1)", -3)
            .kitchen("a1+3").menu(0, "A").menu(1, "?").outside("late(0, *)", NONE, 1, 9).outside("late(1, *)", NONE, 1, 9)
            .outside("late(2, *)", NONE, 1, 9).refuse("late(3, 0)", NONE).refuse("late(-1, 10)", NONE)
            .tell("late(0, 9)", 0, 3);
    }

    private static void poison() {
        Trial.of(43, "A GUEST eats of each DISH of a MENU (without ?) at which it does not go HUNGRY.").kitchen("ab1;bc1;cd1;Ga-c;G-a;G-")
            .menu(0, "ABC").ask("poison(0, 1)", 0).ask("poison(0, 5)", 1).ask("poison(0, 6)", 12).ask("poison(0, 7)", 2)
            .ask("poison(0, 0)", 240).menu(1, "AC").ask("poison(1, 5)", 3).ask("poison(1, 6)", 12).ask("poison(1, 7)", 0);
        Trial.of(43, "STUFFS (bits) of which one may have been bad, if of the GUESTS just those told as bits died: of it all that died ate, and nobody else")
            .kitchen("a1;b1;c1;d1;e1;f1;g1;h1").kitchen("G-bcdefgh;G-acdefgh;G-abdefgh;G-abcefgh;G-abcdfgh;G-abcdegh")
            .menu(0, "ABCDEFGH").ask("poison(0, 1)", 1).ask("poison(0, 2)", 2).ask("poison(0, 4)", 4).ask("poison(0, 8)", 8)
            .ask("poison(0, 16)", 16).ask("poison(0, 32)", 32).ask("poison(0, 0)", 192).ask("poison(0, 3)", 0)
            .ask("poison(0, 63)", 0);
        Trial.of(43, "STUFFS (bits) of which one may have been bad, if of the GUESTS just those told as bits died: of it all that died ate, and nobody else")
            .kitchen("abcdefgh1;G-;G-;G-;G-;G-;G-").menu(0, "A").ask("poison(0, 63)", 255).ask("poison(0, 0)", 0)
            .ask("poison(0, 62)", 0).ask("poison(0, 31)", 0).menu(0, "AAAA").ask("poison(0, 63)", 255);
    }

    private static void poisonRefused() {
        Trial.of(43, "NONE: bits of none such").kitchen("a1").menu(0, "A").ask("poison(0, 0)", 255).outside("poison(0, *)", NONE, 0, 0)
            .kitchen("G-").outside("poison(0, *)", NONE, 0, 1).ask("poison(0, 1)", 1).kitchen("G-;G-;G-;G-")
            .outside("poison(0, *)", NONE, 0, 31).kitchen("G-").outside("poison(0, *)", NONE, 0, 63).ask("poison(0, 63)", 1)
            .refuse("poison(3, 64)", NONE).refuse("poison(1, -1)", NONE);
        Trial.of(43, "-3: no such MENU, none laid down, or one with ?.").kitchen("a1;G-").menu(0, "A").menu(1, "?A")
            .outside("poison(*, 1)", -3, 0, 2).outside("poison(*, 0)", -3, 0, 2).refuse("poison(1, 1)", -3)
            .refuse("poison(2, 0)", -3).read("menu(0)", "", 0).refuse("poison(0, 0)", -3);
    }

    private static void eats() {
        Trial.of(44, "Of how many DISHES of a MENU (without ?) a GUEST eats").kitchen("ab1;bc1;Gab-c;G-;G-abc").menu(0, "A")
            .tell("eats(0, 0)", 1, 1, 3, 2).tell("eats(0, 2)", 0, 0, 0, 0).menu(0, "BAB").tell("eats(0, 0)", 1, 2, 3, 2)
            .tell("eats(0, 1)", 3, 7, 7, 0).menu(0, "AAAAAAAAAA").tell("eats(0, 0)", 10, 1023, 3, 20)
            .tell("eats(0, 2)", 0, 0, 0, 0).menu(0, "BBBBBBBBBA").tell("eats(0, 0)", 1, 512, 3, 2).serve(0)
            .tell("eats(0, 0)", 1, 512, 3, 2);
        Trial.of(44, "the ROW: places (bits), STUFFS (bits) it ate, its JOY in them").kitchen("a5;bc7;h9;Gab-h;G-b").menu(0, "ABCA")
            .tell("eats(0, 0)", 3, 11, 7, 3).tell("eats(0, 1)", 3, 13, 129, 0).read("rule()", "-c-g", 0)
            .tell("eats(0, 0)", 3, 11, 7, -17).tell("eats(0, 1)", 3, 13, 129, -22).read("rule()", "999", 0)
            .menu(0, "AAAAAAAAAA").tell("eats(0, 1)", 10, 1023, 1, 9990).read("rule()", "-999", 0)
            .tell("eats(0, 1)", 10, 1023, 1, -9990);
        Trial.of(44, "NONE: no such GUEST").kitchen("a1").menu(0, "A").refuse("eats(0, 0)", NONE).kitchen("G-;G-")
            .tell("eats(0, 1)", 1, 1, 1, 0).outside("eats(0, *)", NONE, 0, 1).outside("eats(3, *)", NONE, 0, 1)
            .kitchen("G-;G-;G-;G-").tell("eats(0, 5)", 1, 1, 1, 0).refuse("eats(0, 6)", NONE);
        Trial.of(44, "-3 as poison().").kitchen("a1;G-").menu(0, "A").menu(1, "A?").tell("eats(0, 0)", 1, 1, 1, 0)
            .outside("eats(*, 0)", -3, 0, 2).refuse("eats(1, 0)", -3).refuse("eats(2, 0)", -3).read("menu(0)", "", 0)
            .refuse("eats(0, 0)", -3);
    }

    private static void made() {
        Trial.of(45, "The fewest STUFFS of a cold DISH that is made more, so that all DISHES, that one too, can be one BANQUET from nothing on: how many")
            .kitchen("ab1;cd1").tell("made()", 2, 5).ask("law(0, 2)", 1).tell("made()", 4, 15).serve(0).tell("made()", 4, 15)
            .ask("law(0, 3)", 2).refuse("made()", -2);
        Trial.of(45, "The fewest STUFFS of a cold DISH that is made more, so that all DISHES, that one too, can be one BANQUET from nothing on: how many")
            .kitchen("abcd1;efgh1").ask("law(0, 4)", 1).tell("made()", 8, 255).ask("law(0, 3)", 4).tell("made()", 6, 119);
        Trial.of(45, "The fewest STUFFS of a cold DISH that is made more, so that all DISHES, that one too, can be one BANQUET from nothing on: how many")
            .kitchen("a1H;a1H").ask("law(2, 2)", 0).tell("made()", 1, 1).ask("law(2, 1)", 2).tell("made()", 0, 0)
            .kitchen("b1H").refuse("made()", -2).ask("law(2, 0)", 1).tell("made()", 2, 3);
        Trial.of(45, "The fewest STUFFS of a cold DISH that is made more, so that all DISHES, that one too, can be one BANQUET from nothing on: how many")
            .kitchen("a1;b1H").tell("made()", 2, 3).ask("law(2, 1)", 0).tell("made()", 2, 3).ask("law(2, 2)", 1)
            .refuse("made()", -2);
    }

    private static void madeLeast() {
        Trial.of(45, "the ROW: STUFFS (bits; of as few the least).").kitchen("ah1;bg1").tell("made()", 2, 3).ask("store(0, 1)", 99)
            .tell("made()", 2, 130).ask("store(7, 1)", 99).refuse("made()", -2).ask("store(0, 2)", 1).tell("made()", 2, 3)
            .ask("law(1, 1)", 9).refuse("made()", -2).ask("law(1, 2)", 1).tell("made()", 2, 3);
        Trial.of(45, "the ROW: STUFFS (bits; of as few the least).").kitchen("gh1;fgh2;a1").tell("made()", 2, 33)
            .kitchen("e1;ae1").tell("made()", 2, 33);
        Trial.of(45, "0 (the ROW 0): they can be without").tell("made()", 0, 0).kitchen("a1").tell("made()", 0, 0).kitchen("ab1;b1")
            .tell("made()", 0, 0).ask("law(2, 1)", 0).tell("made()", 0, 0).ask("law(1, 2)", 9).tell("made()", 0, 0);
        Trial.of(45, "0 (the ROW 0): they can be without").kitchen(TEN).tell("made()", 0, 0).serve(0, 9).tell("made()", 0, 0)
            .ask("store(2, 6)", 99).tell("made()", 0, 0).ask("store(2, 5)", 6).refuse("made()", -2);
    }

    private static void madeHeat() {
        String cold = "The fewest STUFFS of a cold DISH that is made more";
        Trial.of(45, cold).kitchen("a1H;b1").tell("made()", 2, 3).ask("law(2, 1)", 0).tell("made()", 2, 3).ask("law(2, 2)", 1)
            .refuse("made()", -2);
        Trial.of(45, cold).kitchen("a1;bh1H;ch1").tell("made()", 2, 3).ask("law(2, 1)", 0).tell("made()", 2, 5);
        Trial.of(45, cold).kitchen("a1;ch1;dh1;h1H").ask("law(2, 1)", 0).tell("made()", 2, 5);
        Trial.of(45, cold).kitchen("h1H;ch1;dh1;a1").ask("law(2, 1)", 0).tell("made()", 2, 5);
        Trial.of(45, cold).kitchen("a1H;b1H").ask("law(2, 1)", 0).refuse("made()", -2).kitchen("a1;b1")
            .refuse("made()", -2).ask("law(2, 2)", 1).tell("made()", 2, 3).ask("law(2, 0)", 2).tell("made()", 2, 3);
        Trial.of(45, cold).kitchen("a1H;bc1H;c1").ask("law(2, 2)", 0).tell("made()", 2, 3).ask("law(2, 1)", 2)
            .refuse("made()", -2);
    }

    private static void madeBetween() {
        String all = "so that all DISHES, that one too, can be one BANQUET from nothing on: how many";
        Trial.of(45, all).kitchen("cf1;ag1;bh1;fgh1").tell("made()", 2, 3).ask("store(0, 1)", 99).tell("made()", 2, 6)
            .ask("store(2, 1)", 99).tell("made()", 2, 34);
        Trial.of(45, all).kitchen("ab1;bc1;cd1").tell("longest()", 3, 0, 1, 2).ask("law(0, 2)", 1).refuse("made()", -2)
            .ask("law(0, 1)", 2).tell("made()", 0, 0).kitchen("ef1").tell("made()", 2, 17).ask("law(0, 2)", 1).refuse("made()", -2);
    }

    private static void madeNone() {
        Trial.of(45, "-2: there is none such.").kitchen("a1;b1;c1").refuse("made()", -2).ask("law(1, 1)", 9).refuse("made()", -2)
            .kitchen("ab1").refuse("made()", -2).ask("law(1, 3)", 1).tell("made()", 2, 5);
        Trial.of(45, "-2: there is none such.").kitchen("a1").tell("made()", 0, 0).ask("store(0, 0)", 99).refuse("made()", -2)
            .kitchen("b1").refuse("made()", -2).ask("store(0, 1)", 0).refuse("made()", -2).ask("store(0, 2)", 1)
            .tell("made()", 2, 3);
        Trial.of(45, "-2: there is none such.").kitchen("a1;a1;a1;a1;a1;a1;a1;a1;a1").tell("made()", 0, 0).kitchen("b1")
            .refuse("made()", -2).ask("law(1, 8)", 9).refuse("made()", -2);
    }
}
