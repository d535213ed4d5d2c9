/** The edges of promises 1 to 11: the kitchen. */
final class KitchenEdges {
    private static final int NONE = -1;
    private static final int LOW = Integer.MIN_VALUE;
    private static final int HIGH = Integer.MAX_VALUE;
    private static final String FIVE = "abcdefgh10H+1;".repeat(5);

    private KitchenEdges() {
    }

    static void all() {
        newObject();
        sign();
        end();
        kitchen();
        kitchenTooLong();
        kitchenRoom();
        rule();
        dish();
        guest();
        joy();
        law();
        store();
        sheet();
        sheetEntries();
        sheetRefused();
    }

    private static void newObject() {
        Trial.of(1, "No DISHES").ask("count(0)", 0).none("dish(0, 0)").refuse("serve(0)", NONE).ask("can()", 0)
            .tell("longest()", 0).ask("ways(0)", 1).ask("ways(1)", 0).ask("ways(10)", 0).refuse("between(0, 0)", NONE)
            .refuse("shortest(0, 0)", NONE).refuse("beside(0)", NONE).tell("parts()", 0).refuse("rare()", -2)
            .refuse("round()", -2).ask("shut(0)", 0).ask("shut(9)", 0).tell("best(0, 0)", 1, 0)
            .refuse("best(1, 999)", -2).tell("cheap(0)", 0).refuse("cheap(1)", -2).tell("dear(0)", 0)
            .refuse("dear(1)", -2).tell("game()", 0, NONE, 0).tell("greedy()", 1, 0).tell("made()", 0, 0)
            .ask("falls(8, 1, 2)", 0).ask("sheet(2, 10, 5, 5)", 0).ask("sheet(3, 0, 0, 0)", -3).ask("over()", 0)
            .fault("menu(0)", "A", 0).read("menu(0)", "?", 1).tell("look(0)", 0, NONE, 0, 0).tell("fills(0)", 0);
        Trial.of(1, "no GUESTS").ask("count(1)", 0).none("guest(0, 0)").none("joy(0, 0)").refuse("bears(0)", NONE)
            .kitchen("a1").none("joy(0, 0)").ask("dish(0, 4)", 0).ask("dish(0, 5)", 0).refuse("fair(0, 0)", -2)
            .menu(0, "A").ask("poison(0, 0)", 255).refuse("poison(0, 1)", NONE).refuse("eats(0, 0)", NONE);
    }

    private static void sign() {
        Trial.of(2, "Four signs come behind THE TEXT, of v the highest byte first: how many it has")
            .ask("sign(" + ('a' << 24 | 'b' << 16 | '1' << 8 | '2') + ")", 4)
            .ask("sign(" + ('H' << 24 | ';' << 16 | 'c' << 8 | '3') + ")", 8).ask("count(6)", 8).ask("kitchen()", 2)
            .ask("dish(0, 0)", 3).ask("dish(0, 1)", 12).ask("dish(0, 2)", 1).ask("dish(1, 0)", 4)
            .ask("sign(-1)", 4).ask("kitchen()", -1).ask("sign(0)", 4).ask("kitchen()", -1)
            .ask("sign(" + LOW + ")", 4).ask("rule()", -1).ask("sign(" + HIGH + ")", 4).ask("menu(0)", -1)
            .ask("sign(" + ('7' << 24 | 255) + ")", 4).ask("end(1)", 1).ask("rule()", 0);
        Trial t = Trial.of(2, "Refused: there would be more than 80");
        t.kitchen("a1+7");
        for (int k = 1; k <= 19; k++) t.ask("sign(" + ('A' * 0x01010101) + ")", 4 * k);
        t.ask("sign(" + ('A' * 0x01010101) + ")", 80).refuse("sign(0)", NONE).ask("count(6)", 80);
        for (int n : new int[] {79, 78, 77}) t.ask("end(" + n + ")", 1).refuse("sign(0)", NONE).ask("count(6)", n);
        t.ask("end(76)", 1).ask("sign(0)", 80).refuse("sign(-1)", NONE).ask("end(3)", 1);
    }

    private static void end() {
        Trial.of(3, "THE TEXT has its first n signs alone: true").write("a1;b2H+3").ask("end(8)", 1).ask("count(6)", 8)
            .ask("end(7)", 1).ask("count(6)", 7).ask("end(2)", 1).ask("sign(" + ('5' << 24 | 'H' << 16) + ")", 6)
            .ask("end(4)", 1).ask("kitchen()", 1).ask("dish(0, 1)", 15).ask("dish(0, 2)", 1).ask("end(0)", 1)
            .write("a1").ask("end(0)", 1).ask("count(6)", 0).ask("kitchen()", 0);
        Trial.of(3, "false if it has not so many, or n is below 0").kitchen("a1;b1+1;c1+2").refuse("end(1)", 0)
            .ask("end(0)", 1).refuse("end(-1)", 0).write("CAB").outside("end(*)", 0, 0, 3).ask("end(3)", 1)
            .ask("end(2)", 1).refuse("end(3)", 0);
    }

    private static void kitchen() {
        Trial.of(4, "THE TEXT tells of THE KITCHEN (an empty one: nothing)").read("kitchen()", "", 0).ask("count(0)", 0)
            .kitchen("a1;G-").read("kitchen()", "", 0).ask("count(0)", 1).ask("count(1)", 1);
        Trial.of(4, "how many LINES").read("kitchen()", "a1", 1).read("kitchen()", "G-", 1).read("kitchen()", "a1;G-", 2)
            .read("kitchen()", "a1;a1;a1;a1;a1;a1;a1;a1;G-;G-;G-;G-", 12).ask("count(0)", 10).ask("count(1)", 6);
        Trial.of(4, "how many LINES").read("kitchen()", "a1;a1;a1;a1;a1;a1;a1;a1;a1;a1;G-;G-;G-;G-;G-;G-", 16)
            .ask("count(0)", 10).ask("count(1)", 6);
        Trial t = Trial.of(4, "-1 - p: the sign at p can't stand there (its end, if it ends too early");
        String[] texts = {"x", "A", "-", "+", "a", "a1;", "a1;b", "a1+", "a1;b1H+", "G", "Ga", "a1;G", "a1x", "a1H1", "a1+1+",
            "G-1", "Ga1", "a" + (char) 0, "" + (char) 255, "a1" + (char) 128};
        int[] places = {0, 0, 0, 0, 1, 3, 4, 3, 7, 1, 2, 4, 2, 3, 4, 2, 2, 1, 0, 2};
        for (int k = 0; k < texts.length; k++) t.fault("kitchen()", texts[k], places[k]);
        t.ask("count(0)", 0).ask("count(1)", 0);
    }

    private static void kitchenTooLong() {
        Trial.of(4, "76, if it has more and the first 76 could go on or end").fault("kitchen()", FIVE + "abcd11;", 76)
            .fault("kitchen()", FIVE + "abcdefg", 76).fault("kitchen()", FIVE + "abcdef1", 76)
            .fault("kitchen()", FIVE + "abcd1;;", 76).fault("kitchen()", FIVE + "abcd11;b22", 76)
            .fault("kitchen()", FIVE + "abcd11x", 76).fault("kitchen()", FIVE + "Gabcd-x", 76)
            .fault("kitchen()", FIVE + "abcd1xxxxx", 75).fault("kitchen()", "x" + FIVE + "abcd11;", 0)
            .fault("kitchen()", FIVE + "abcdef", 76).fault("kitchen()", FIVE + "abcd1;", 76).ask("count(0)", 0);
        Trial.of(4, "a letter that does not rise: at it").fault("kitchen()", "aa1", 1).fault("kitchen()", "ba1", 1)
            .fault("kitchen()", "abcb1", 3).fault("kitchen()", "ah1;hh1", 5).fault("kitchen()", "Gaa-", 2)
            .fault("kitchen()", "Gba-", 2).fault("kitchen()", "G-aa", 3).fault("kitchen()", "G-hg", 3)
            .fault("kitchen()", "abcdefgha1", 8).kitchen("ab1;ah2;Gbh-ac");
    }

    private static void kitchenRoom() {
        Trial.of(4, "the first sign of a LINE for which there is no room)").kitchen("a1;b1;c1;d1;e1;f1;g1;h1;a1")
            .fault("kitchen()", "b1;c1", 3).fault("kitchen()", "G-;b1;G-;c1", 9).fault("kitchen()", "b1;x", 3)
            .fault("kitchen()", "b1;cx", 3).kitchen("b1").fault("kitchen()", "c1", 0).fault("kitchen()", "c", 0)
            .fault("kitchen()", "G-;c1", 3).kitchen("G-;G-;G-;G-;G-").fault("kitchen()", "G-;G-", 3).kitchen("G-")
            .fault("kitchen()", "G-", 0).fault("kitchen()", "Gx", 0).fault("kitchen()", "a1", 0).ask("count(0)", 10)
            .ask("count(1)", 6);
        Trial.of(4, "the first sign of a LINE for which there is no room)")
            .fault("kitchen()", "a1;a1;a1;a1;a1;a1;a1;a1;a1;a1;a1", 30).fault("kitchen()", "G-;G-;G-;G-;G-;G-;G-", 18)
            .fault("kitchen()", "a1;a1;a1;a1;a1;a1;a1;a1;a1;a1;", 30).ask("count(0)", 0);
        Trial.of(4, "Nothing of it comes, if a LINE can't.").kitchen("h9;Gh-g").fault("kitchen()", "a1;b2;c", 7)
            .fault("kitchen()", "Ga-b;a1;x", 8).fault("kitchen()", "a1;", 3).ask("count(0)", 1).ask("count(1)", 1)
            .none("dish(1, 0)").none("guest(1, 0)").kitchen("b3;Gc-").ask("dish(1, 0)", 2).ask("dish(1, 1)", 3)
            .ask("guest(1, 0)", 4).ask("dish(0, 0)", 128).tell("rare()", 1, 2);
    }

    private static void rule() {
        Trial.of(5, "THE TEXT is THE RULE (an empty one: none): 0.").kitchen("abc1;Gab-").ask("joy(0, 0)", 2)
            .read("rule()", "7", 0).ask("joy(0, 0)", 7).read("rule()", "n", 0).ask("joy(0, 0)", 3)
            .read("rule()", "", 0).ask("joy(0, 0)", 2);
        String forty = "1" + "+1".repeat(19) + "0";
        Trial.of(5, "-1 - p: as kitchen() (40 signs).").kitchen("a1;Ga-").read("rule()", forty, 0).ask("joy(0, 0)", 29)
            .fault("rule()", forty + "0", 40).fault("rule()", forty + "0".repeat(40), 40)
            .fault("rule()", forty + "x", 40).fault("rule()", forty.substring(0, 39) + "+", 40)
            .fault("rule()", forty.substring(0, 39) + "+7", 40).fault("rule()", forty.substring(0, 39) + "x", 39)
            .fault("rule()", forty.substring(0, 39) + "x7", 39).fault("rule()", "x" + forty, 0)
            .fault("rule()", "(" + forty.substring(0, 39), 40).fault("rule()", "(" + forty, 40)
            .fault("rule()", "1+", 2).fault("rule()", "(", 1).fault("rule()", "" + (char) 255, 0)
            .fault("rule()", "" + (char) 0, 0).ask("joy(0, 0)", 29).read("rule()", "1", 0).ask("joy(0, 0)", 1);
        Trial.of(5, "-1 - p: as kitchen() (40 signs).").kitchen("a1;Gb-").fault("rule()", "1+x", 2).fault("rule()", "7+", 2)
            .ask("joy(0, 0)", 0);
    }

    private static void dish() {
        String kitchen = "a0;abcdefgh99H+9;h5+1;b1;b1;b1;b1;b1;b1;c7H+8";
        Trial.of(6, "Of a DISH, what 0: STUFFS (bits)").kitchen(kitchen).ask("dish(0, 0)", 1).ask("dish(1, 0)", 255)
            .ask("dish(2, 0)", 128).ask("dish(9, 0)", 4);
        Trial.of(6, "1: COST").kitchen(kitchen).ask("dish(0, 1)", 0).ask("dish(1, 1)", 99).ask("dish(9, 1)", 7);
        Trial.of(6, "2: 1 if HOT").kitchen(kitchen).ask("dish(0, 2)", 0).ask("dish(1, 2)", 1).ask("dish(9, 2)", 1);
        Trial.of(6, "3: HOURS").kitchen(kitchen).ask("dish(0, 3)", 0).ask("dish(1, 3)", 9).ask("dish(9, 3)", 8);
        Trial.of(6, "4: the sum of JOY of all GUESTS").kitchen(kitchen).ask("dish(1, 4)", 0).kitchen("Gabcdefgh-")
            .ask("dish(1, 4)", 8).ask("dish(0, 4)", 1).kitchen("G-;Gab-ab;G-;G-;Ga-").ask("dish(1, 4)", 11)
            .ask("dish(9, 4)", 1).read("rule()", "999", 0).ask("dish(0, 4)", 5994).read("rule()", "999*9", 0)
            .ask("dish(9, 4)", 5994).read("rule()", "-999", 0).ask("dish(0, 4)", -5994).read("rule()", "g", 0)
            .ask("dish(0, 4)", 15);
        Trial.of(6, "5: how many go HUNGRY at it.").kitchen(kitchen).ask("dish(1, 5)", 0).kitchen("G-a;G-a;G-ab;G-b;G-a;G-a")
            .ask("dish(0, 5)", 5).ask("dish(1, 5)", 6).ask("dish(2, 5)", 0).ask("dish(3, 5)", 2).ask("dish(9, 5)", 0);
        Trial.of(6, "NoSuchElementException: none such, another what.").none("dish(0, 0)").kitchen("a1;b1")
            .noneOutside("dish(*, 0)", 0, 1).noneOutside("dish(*, 5)", 0, 1).noneOutside("dish(1, *)", 0, 5)
            .none("dish(2, 6)").none("dish(-1, -1)").ask("dish(1, 0)", 2).ask("dish(1, 5)", 0);
        Trial.of(6, "NoSuchElementException: none such, another what.").kitchen(kitchen).ask("dish(9, 0)", 4)
            .noneOutside("dish(*, 0)", 0, 9);
    }

    private static void guest() {
        String six = "Ga-b;G-;G-;G-;G-;Gh-abcdefgh";
        Trial.of(7, "Of a GUEST, what 0: STUFFS it LOVES (bits)").kitchen(six).ask("guest(0, 0)", 1).ask("guest(1, 0)", 0)
            .ask("guest(5, 0)", 128);
        Trial.of(7, "1: it BARS").kitchen(six).ask("guest(0, 1)", 2).ask("guest(1, 1)", 0).ask("guest(5, 1)", 255);
        Trial.of(7, "NoSuchElementException: none such, another what.").none("guest(0, 0)").kitchen(six)
            .noneOutside("guest(*, 0)", 0, 5).noneOutside("guest(*, 1)", 0, 5).noneOutside("guest(5, *)", 0, 1);
        Trial.of(7, "NoSuchElementException: none such, another what.").kitchen("G-;a1;b1;c1").none("guest(1, 0)")
            .ask("guest(0, 0)", 0);
    }

    private static void joy() {
        Trial.of(8, "JOY of a GUEST in a DISH").kitchen("a1;ab1;c1;Gab-ab;Gc-").ask("joy(0, 0)", 1).ask("joy(0, 1)", 2)
            .ask("joy(0, 2)", 0).ask("joy(1, 2)", 1).ask("joy(1, 0)", 0).read("rule()", "-99*c*g-d", 0)
            .ask("joy(0, 0)", 0).ask("joy(1, 2)", -101).read("rule()", "999", 0).ask("joy(1, 2)", 999);
        Trial.of(8, "NoSuchElementException: none such.").none("joy(0, 0)").kitchen("a1;b1").none("joy(0, 0)")
            .kitchen("G-;G-;G-").noneOutside("joy(*, 0)", 0, 2).noneOutside("joy(0, *)", 0, 1).ask("joy(2, 1)", 0)
            .none("joy(3, 2)");
        Trial.of(8, "NoSuchElementException: none such.").kitchen("G-").none("joy(0, 0)").kitchen(TermsEdges.TEN)
            .ask("joy(0, 9)", 0).none("joy(0, 10)").kitchen("G-;G-;G-;G-;G-").ask("joy(5, 9)", 0).none("joy(6, 9)");
    }

    private static void law() {
        Trial t = Trial.of(9, "THE LAW: what becomes v: what it was.");
        int[][] ranges = {{1, 8, 1}, {1, 9, 9}, {0, 2, 0}};
        for (int what = 0; what < 3; what++) {
            int was = ranges[what][2];
            for (int v = ranges[what][0]; v <= ranges[what][1]; v++) {
                t.ask("law(" + what + ", " + v + ")", was);
                was = v;
            }
            t.ask("law(" + what + ", " + was + ")", was);
        }
        t.ask("law(0, 1)", 8).ask("law(1, 1)", 9).ask("law(2, 0)", 2);
        Trial.of(9, "Refused: others.").ask("law(0, 3)", 1).ask("law(1, 4)", 9).ask("law(2, 1)", 0)
            .outside("law(0, *)", NONE, 1, 8).outside("law(1, *)", NONE, 1, 9).outside("law(2, *)", NONE, 0, 2)
            .outside("law(*, 1)", NONE, 0, 2).ask("law(0, 1)", 3).ask("law(1, 9)", 4).ask("law(2, 0)", 1);
    }

    private static void store() {
        Trial t = Trial.of(10, "STORE of a STUFF becomes v (0 .. 99): what it was.");
        for (int s = 0; s < 8; s++) t.ask("store(" + s + ", " + s + ")", 99);
        for (int s = 0; s < 8; s++) t.ask("store(" + s + ", 99)", s).ask("store(" + s + ", 0)", 99).ask("store(" + s + ", 99)", 0);
        Trial.of(10, "Refused: others.").ask("store(0, 5)", 99).outside("store(*, 7)", NONE, 0, 7)
            .outside("store(0, *)", NONE, 0, 99).outside("store(7, *)", NONE, 0, 99).refuse("store(8, 100)", NONE)
            .ask("store(0, 99)", 5).ask("store(7, 99)", 99);
    }

    private static Trial costs(Trial t, int... costs) {
        for (int d = 0; d < costs.length; d++) t.ask("dish(" + d + ", 1)", costs[d]);
        return t;
    }

    private static void sheet() {
        Trial t = Trial.of(11, "COSTS of DISHES 0, 1, .., as a sheet tells them: bytes (kind 0), shorts (1), ints (2)");
        t.kitchen("a9;b9;c9");
        costs(t.ask("sheet(0, 3, 1, 10)", 33), 1, 11, 21);
        costs(t.ask("sheet(1, 3, 2, 11)", 39), 2, 13, 24);
        costs(t.ask("sheet(2, 3, 3, 12)", 45), 3, 15, 27);
        t = Trial.of(11, "of n entries f, f + step, ..").kitchen("a9;b9;c9");
        costs(t.ask("sheet(2, 3, 50, -20)", 90), 50, 30, 10);
        costs(t.ask("sheet(2, 3, 7, 0)", 21), 7, 7, 7);
        costs(t.ask("sheet(2, 1, 0, 50)", 0), 0, 0, 0);
        costs(t.ask("sheet(2, 3, " + HIGH + ", 1)", 99), 99, 0, 0);
        costs(t.ask("sheet(2, 3, " + HIGH + ", " + HIGH + ")", 198), 99, 0, 99);
        costs(t.ask("sheet(2, 3, " + LOW + ", " + LOW + ")", 0), 0, 0, 0);
        costs(t.ask("sheet(2, 3, 5, " + LOW + ")", 10), 5, 0, 5);
    }

    private static void sheetEntries() {
        Trial t = Trial.of(11, "(of bytes, shorts the lowest bits, with their sign; put to 0 .. 99)").kitchen("a9");
        int[][] entries = {{0, 0, 0}, {0, 98, 98}, {0, 99, 99}, {0, 100, 99}, {0, 127, 99}, {0, 128, 0}, {0, 255, 0},
            {0, 256, 0}, {0, 257, 1}, {0, 355, 99}, {0, 356, 99}, {0, -1, 0}, {0, -128, 0}, {0, -129, 99}, {0, -251, 5},
            {0, HIGH, 0}, {0, LOW, 0}, {0, LOW + 9, 9},
            {1, 98, 98}, {1, 100, 99}, {1, 128, 99}, {1, 32767, 99}, {1, 32768, 0}, {1, 65535, 0}, {1, 65536, 0},
            {1, 65537, 1}, {1, -1, 0}, {1, -32768, 0}, {1, -32769, 99}, {1, -65530, 6}, {1, LOW + 9, 9},
            {2, 0, 0}, {2, 98, 98}, {2, 99, 99}, {2, 100, 99}, {2, 32768, 99}, {2, 65536, 99}, {2, HIGH, 99}, {2, -1, 0},
            {2, LOW, 0}, {2, LOW + 9, 0}};
        for (int[] e : entries) t.ask("sheet(" + e[0] + ", 1, " + e[1] + ", 7)", e[2]).ask("dish(0, 1)", e[2]);
        t = Trial.of(11, "or a missing one (3): those behind it have 0").kitchen("a9;b8;c7;d6");
        costs(t.ask("sheet(2, 3, 1, 1)", 6), 1, 2, 3, 0);
        costs(t.ask("sheet(0, 1, 4, 1)", 4), 4, 0, 0, 0);
        costs(t.ask("sheet(2, 4, 5, 0)", 20), 5, 5, 5, 5);
        costs(t.ask("sheet(1, 0, 4, 1)", 0), 0, 0, 0, 0);
        t = Trial.of(11, "the sum of all that there are (entries beyond them are left aside)").kitchen("a9;b8");
        costs(t.ask("sheet(2, 10, 99, 0)", 198), 99, 99);
        costs(t.ask("sheet(2, 3, 1, 1)", 3), 1, 2);
        t.kitchen("c5").ask("dish(2, 1)", 5).ask("sheet(2, 3, 99, 0)", 297);
        Trial.of(11, "the sum of all that there are (entries beyond them are left aside)").ask("sheet(0, 10, 5, 5)", 0)
            .kitchen(TermsEdges.TEN).ask("sheet(1, 10, 99, 0)", 990).ask("sheet(2, 9, 99, 0)", 891)
            .ask("dish(9, 1)", 0).ask("sheet(2, 10, 0, 1)", 45).ask("dish(9, 1)", 9);
    }

    private static void sheetRefused() {
        Trial t = Trial.of(11, "-2: n below 0 (of kinds 0 .. 2; nothing changes)").kitchen("a9;b8");
        for (int kind = 0; kind < 3; kind++) {
            for (int n : new int[] {-1, -2, -10, LOW}) t.refuse("sheet(" + kind + ", " + n + ", 1, 1)", -2);
        }
        costs(t, 9, 8).ask("sheet(0, 0, 1, 1)", 0);
        t = Trial.of(11, "-3: missing (all 0).").kitchen("a9;b8");
        for (int n : new int[] {0, 1, 10, -1, LOW}) {
            costs(t.ask("sheet(2, 2, 5, 1)", 11).leaveRow("sheet(3, " + n + ", 7, 7)", -3), 0, 0);
        }
        t = Trial.of(11, "NONE, asked first: another kind, n above 10 (of a missing one, too).").kitchen("a9;b8");
        t.outside("sheet(*, 2, 1, 1)", NONE, 0, 3).outside("sheet(*, -1, 1, 1)", NONE, 0, 3);
        t.outside("sheet(*, 11, 1, 1)", NONE, 0, 3);
        for (int kind = 0; kind < 4; kind++) {
            for (int n : new int[] {11, 12, HIGH}) t.refuse("sheet(" + kind + ", " + n + ", 1, 1)", NONE);
        }
        costs(t, 9, 8).ask("sheet(2, 10, 1, 1)", 3).ask("sheet(3, 10, 1, 1)", -3);
    }
}
