/** For each promise: ordinary calls, the edges that the document names, and wrong ones. */
public final class PromiseTest {
    private static final int NONE = -1;
    private static final int LOW = Integer.MIN_VALUE;
    private static final int HIGH = Integer.MAX_VALUE;
    /** A (ab) B (bc, hot) C (cd) D (ad, 3 hours) E (e); one loves a, bars c; one loves b and d. */
    private static final String KITCHEN = "ab10;bc5H;cd7;ad9+3;e3;Ga-c;Gbd-";

    public static void main(String[] args) {
        kitchen();
        banquet();
        goingOn();
        joy();
        cooks();
        menus();
        kept();
        Court.endTests("PromiseTest");
    }

    private static void kitchen() {
        promise1();
        promise2and3();
        promise4();
        promise4Faults();
        promise5();
        promise5Values();
        promise6to8();
        promise9and10();
        promise11();
    }

    private static void banquet() {
        promise12();
        promise12Order();
        promise13to15();
        promise16();
        promise17();
        promise18and19();
        promise20();
        promise21();
    }

    private static void goingOn() {
        promise22and23();
        promise24and25();
        promise26();
        promise27to29();
        promise30();
        promise31();
    }

    private static void joy() {
        promise32and33();
        promise34and35();
    }

    private static void cooks() {
        promise36();
        promise37();
    }

    private static void menus() {
        promise38();
        promise39and40();
        promise41and42();
        promise43and44();
        promise45();
    }

    private static void kept() {
        promise46and47();
        promise48and49();
    }

    private static void promise1() {
        Court c = new Court("promise 1");
        int[] counts = {0, 0, 0, NONE, 0, 0, 0, 0};
        for (int what = 0; what < counts.length; what++) c.due("count(" + what + ")", c.x.count(what), counts[what]);
        c.due("NONE", NextMustShare.NONE, -1);
        c.due("law(0, 1)", c.x.law(0, 1), 1);
        c.due("law(1, 9)", c.x.law(1, 9), 9);
        c.due("law(2, 0)", c.x.law(2, 0), 0);
        for (int s = 0; s < 8; s++) c.due("store(" + s + ", 1)", c.x.store(s, 1), 99);
        c.due("again(0)", c.x.again(0), false);
        c.due("can()", c.x.can(), 0);
    }

    private static void promise2and3() {
        Court c = new Court("promise 2, 3");
        for (int k = 1; k <= 20; k++) c.due("sign", c.x.sign('a' << 24 | '1' << 16 | ';' << 8 | 'a'), 4 * k);
        c.due("sign beyond 80", c.x.sign(0), NONE);
        c.due("count(6)", c.x.count(6), 80);
        c.due("end(81)", c.x.end(81), false);
        c.due("end(-1)", c.x.end(-1), false);
        c.due("end(80)", c.x.end(80), true);
        c.due("end(77)", c.x.end(77), true);
        c.due("sign beyond 80 from 77", c.x.sign(0), NONE);
        c.due("end(76)", c.x.end(76), true);
        c.due("sign from 76", c.x.sign(0), 80);
        c.due("end(78)", c.x.end(78), true);
        c.due("end(80) of 78", c.x.end(80), false);
        c.due("end(2)", c.x.end(2), true);
        c.due("kitchen()", c.x.kitchen(), 1);
        c.due("end(0)", c.x.end(0), true);
        c.due("end(1)", c.x.end(1), false);
        c.due("sign(-1)", c.x.sign(-1), 4);
        c.due("kitchen() of signs 255", c.x.kitchen(), -1);
    }

    private static void promise4() {
        Court c = new Court("promise 4", KITCHEN);
        c.due("count(6)", c.x.count(6), 0);
        c.due("an empty one", c.kitchen(""), 0);
        c.due("more", c.kitchen("abcdefgh99H+9;Gabcdefgh-abcdefgh"), 2);
        c.due("dish(5, 0)", c.x.dish(5, 0), 255);
        c.due("dish(5, 1)", c.x.dish(5, 1), 99);
        c.due("dish(5, 3)", c.x.dish(5, 3), 9);
        c.due("guest(2, 1)", c.x.guest(2, 1), 255);
        c.due("a cost of 05", c.kitchen("h05+0"), 1);
        c.due("dish(6, 1)", c.x.dish(6, 1), 5);
        c.due("the dish 7 of it can, the line behind can't", c.kitchen("a1;b"), -5);
        c.due("count(0)", c.x.count(0), 7);
        c.none("dish(7, 0)", () -> c.x.dish(7, 0));
        c.due("three more", c.kitchen("a1;b2;c3"), 3);
        c.due("no room for an eleventh", c.kitchen("d4"), -1);
        c.due("nor behind a guest", c.kitchen("G-;a1"), -4);
        c.due("count(1)", c.x.count(1), 3);
        c.due("guests to the sixth", c.kitchen("G-;G-;G-"), 3);
        c.due("no room for a seventh", c.kitchen("G-"), -1);
        c.due("neither", c.kitchen(";"), -1);
    }

    private static void promise4Faults() {
        Court c = new Court("promise 4, faults");
        String[] texts = {"i1", "A1", "1", "a", "a+", "a1;", "a1H;;", "ab1c", "ba1", "aa1", "abba1", "a123", "aH1",
            "a1HH", "a1+", "a1+12", "a1+1H", "a1H+", "G", "Gab", "Gba-", "G-ba", "Ga-a1", "G--", "Gi-", "G-i", "g1G",
            "a1,b1", " a1", "a1 ", "-", "G-;", "a1;b2;c"};
        int[] places = {0, 0, 0, 1, 1, 3, 4, 3, 1, 1, 2, 3, 1, 3, 3, 4, 4, 4, 1, 3, 2, 3, 4, 2, 1, 2, 2,
            2, 0, 2, 0, 3, 7};
        for (int k = 0; k < texts.length; k++) c.due("kitchen of " + texts[k], c.kitchen(texts[k]), -1 - places[k]);
        c.due("count(0)", c.x.count(0), 0);
        c.due("count(1)", c.x.count(1), 0);
        String full = "abcdefgh10H+1;".repeat(5);
        c.due("76 signs and no end", c.kitchen(full + "abcdef"), -77);
        c.due("76 signs", c.kitchen(full + "abcd11"), 6);
        c.due("no room ahead of no end", c.kitchen(full + "abcdef"), -57);
        Court d = new Court("promise 4, more than 76");
        d.due("77 signs", d.kitchen(full + "abcd11;"), -77);
        d.due("76 that could go on", d.kitchen(full + "abcdef10"), -77);
        d.due("77 with a fault ahead", d.kitchen(full + "abdc11H"), -74);
        d.due("count(0)", d.x.count(0), 0);
        d.due("count(6)", d.x.count(6), 0);
    }

    private static void promise5() {
        Court c = new Court("promise 5", "a1;Ga-");
        String[] wrong = {"x", "l+", "l<b<n", "(l", "(((((l", "1000", "+l", "l l", "ll", "()", "l)", "l--", "l<", "l<>b",
            "=l", "2(l)", "(l)(b)", "l*/b", "-", "((l)", "(l<b)<n=", "A", "1l"};
        int[] places = {0, 2, 3, 2, 4, 3, 0, 1, 1, 1, 1, 3, 2, 2, 0, 1, 3, 2, 1, 4, 7, 0, 1};
        for (int k = 0; k < wrong.length; k++) c.due("rule of " + wrong[k], c.rule(wrong[k]), -1 - places[k]);
        c.due("joy as it was", c.x.joy(0, 0), 1);
        String forty = "1" + "+1".repeat(19);
        c.due("39 signs", c.rule(forty), 0);
        c.due("joy of 20 ones", c.x.joy(0, 0), 20);
        c.due("40 signs", c.rule(forty + "0"), 0);
        c.due("joy of 19 ones and 10", c.x.joy(0, 0), 29);
        c.due("41 signs", c.rule(forty + "00"), -41);
        c.due("41 signs that could end", c.rule(forty + "0+"), -41);
        c.due("40 signs with no end", c.rule(forty + "+"), -41);
        c.due("41 with a fault ahead", c.rule("x" + forty + "+"), -1);
        c.due("joy still", c.x.joy(0, 0), 29);
        c.due("count(6)", c.x.count(6), 0);
        c.due("an empty one", c.rule(""), 0);
        c.due("joy by none", c.x.joy(0, 0), 1);
        c.due("40 of -", c.rule("-".repeat(40)), -41);
        c.due("39 of -", c.rule("-".repeat(39) + "1"), 0);
        c.due("joy by 39 of -", c.x.joy(0, 0), -1);
        c.due("four in one another", c.rule("((((l))))"), 0);
        c.due("and beside", c.rule("((((l))))+((((b))))"), 0);
    }

    private static void promise5Values() {
        Court c = new Court("promise 5, values", "abc40H+7;d9;Gabd-bc;Gd-");
        String[] rules = {"l", "b", "n", "c", "h", "o", "g", "d", "1+2*3", "10-3-2", "24/4/2", "24/4*2", "-7/2", "7/-2",
            "5/0", "0/0", "1-2*3<0", "2<1", "2>1", "2=2", "(1<2)+(2<3)", "-(2+3)", "--4", "3--4", "3*-4", "999*999",
            "-999*2", "-999-999", "999*999*999", "999*999*999*999*999", "1000-1", "(l+b)*(n-h)", "2*(3+4)*(5-6)",
            "c*10+o", "1+1=2", "8-(4-(2-(1)))", "1-(1>2)*5", "999*999*999*40", "007"};
        int[] joys = {2, 2, 3, 40, 1, 7, 0, 0, 7, 5, 3, 12, -3, -3,
            0, 0, 1, 0, 1, 1, 2, -5, 4, 7, -12, 999,
            -999, -999, clamp(999 * 999 * 999), clamp(999 * 999 * 999 * 999 * 999), 0, 8, -14,
            407, 1, 5, 1, clamp(999 * 999 * 999 * 40), 7};
        for (int k = 0; k < rules.length; k++) {
            int answer = c.rule(rules[k]);
            if (rules[k].startsWith("1000")) {
                c.due("rule of 1000-1", answer, -4);
            } else {
                c.due("rule of " + rules[k], answer, 0);
                c.due("joy by " + rules[k], c.x.joy(0, 0), joys[k]);
            }
        }
        c.due("rule", c.rule("100*g+10*d+l"), 0);
        c.due("joy(1, 1)", c.x.joy(1, 1), 111);
        c.due("joy(0, 1)", c.x.joy(0, 1), 11);
        c.due("joy(1, 0)", c.x.joy(1, 0), 100);
    }

    private static int clamp(int v) {
        return Math.max(-999, Math.min(999, v));
    }

    private static void promise6to8() {
        Court c = new Court("promise 6 to 8", KITCHEN);
        int[][] dishes = {{3, 10, 0, 0, 2, 0}, {6, 5, 1, 0, 1, 1}, {12, 7, 0, 0, 1, 1}, {9, 9, 0, 3, 2, 0},
            {16, 3, 0, 0, 0, 0}};
        for (int d = 0; d < dishes.length; d++) {
            for (int what = 0; what < 6; what++) {
                c.due("dish(" + d + ", " + what + ")", c.x.dish(d, what), dishes[d][what]);
            }
        }
        int[][] guests = {{1, 4}, {10, 0}};
        for (int g = 0; g < guests.length; g++) {
            for (int what = 0; what < 2; what++) {
                c.due("guest(" + g + ", " + what + ")", c.x.guest(g, what), guests[g][what]);
            }
        }
        c.due("joy(0, 3)", c.x.joy(0, 3), 1);
        c.due("joy(1, 2)", c.x.joy(1, 2), 1);
        c.due("joy(0, 2), hungry and all the same", c.x.joy(0, 2), 0);
        for (int v : new int[] {NONE, 5, 10, 32, LOW, HIGH}) {
            c.none("dish(" + v + ", 0)", () -> c.x.dish(v, 0));
            c.none("guest(" + v + ", 0)", () -> c.x.guest(v, 0));
            c.none("joy(" + v + ", 0)", () -> c.x.joy(v, 0));
            c.none("joy(0, " + v + ")", () -> c.x.joy(0, v));
        }
        for (int v : new int[] {NONE, 6, LOW, HIGH}) {
            c.none("dish(0, " + v + ")", () -> c.x.dish(0, v));
            c.none("guest(0, " + v + ")", () -> c.x.guest(0, v));
        }
        c.none("guest(0, 2)", () -> c.x.guest(0, 2));
        c.none("guest(2, 0)", () -> c.x.guest(2, 0));
        Court d = new Court("promise 8, all the same though hungry", "ab1;Gab-a");
        d.due("joy(0, 0)", d.x.joy(0, 0), 2);
        d.due("dish(0, 5)", d.x.dish(0, 5), 1);
    }

    private static void promise9and10() {
        Court c = new Court("promise 9, 10");
        int[][] changes = {{0, 8, 1}, {0, 1, 8}, {1, 1, 9}, {1, 9, 1}, {2, 2, 0}, {2, 1, 2}, {2, 0, 1}};
        for (int[] k : changes) c.due("law(" + k[0] + ", " + k[1] + ")", c.x.law(k[0], k[1]), k[2]);
        int[][] wrong = {{0, 0}, {0, 9}, {1, 0}, {1, 10}, {2, -1}, {2, 3}, {3, 1}, {-1, 1}, {LOW, 1}, {0, HIGH}};
        for (int[] k : wrong) c.due("law(" + k[0] + ", " + k[1] + ")", c.x.law(k[0], k[1]), NONE);
        c.due("law(0, 1)", c.x.law(0, 1), 1);
        c.due("store(0, 0)", c.x.store(0, 0), 99);
        c.due("store(0, 99)", c.x.store(0, 99), 0);
        c.due("store(7, 5)", c.x.store(7, 5), 99);
        c.due("store(7, 5)", c.x.store(7, 5), 5);
        int[][] stores = {{8, 0}, {-1, 0}, {0, -1}, {0, 100}, {LOW, 1}, {HIGH, 1}, {0, LOW}};
        for (int[] k : stores) c.due("store(" + k[0] + ", " + k[1] + ")", c.x.store(k[0], k[1]), NONE);
        c.due("store(0, 99)", c.x.store(0, 99), 99);
    }

    private static void promise11() {
        Court c = new Court("promise 11", "a1;b2;c3;d4");
        c.due("sheet(2, 3, 5, 60)", c.x.sheet(2, 3, 5, 60), 169);
        c.due("dish(2, 1)", c.x.dish(2, 1), 99);
        c.due("dish(3, 1)", c.x.dish(3, 1), 0);
        c.due("a byte's lowest bits", c.x.sheet(0, 4, 300, 0), 4 * 44);
        c.due("a byte below 0", c.x.sheet(0, 2, 128, -1), 99);
        c.due("dish(0, 1)", c.x.dish(0, 1), 0);
        c.due("dish(1, 1)", c.x.dish(1, 1), 99);
        c.due("a short's lowest bits", c.x.sheet(1, 2, 65536 + 7, 0), 14);
        c.due("a short below 0", c.x.sheet(1, 2, 32768, 32768 + 3), 3);
        c.due("an int, as it is", c.x.sheet(2, 1, 65536 + 7, 0), 99);
        c.due("an int round", c.x.sheet(2, 3, HIGH, 1), 99);
        c.due("entries beyond", c.x.sheet(2, 10, 1, 1), 10);
        c.due("n below 0", c.x.sheet(2, -1, 1, 1), -2);
        c.due("n far below 0", c.x.sheet(0, LOW, 1, 1), -2);
        c.due("n above 10", c.x.sheet(2, 11, 1, 1), NONE);
        c.due("kind 4", c.x.sheet(4, 1, 1, 1), NONE);
        c.due("kind -1", c.x.sheet(-1, 1, 1, 1), NONE);
        c.due("kind 4, n below 0", c.x.sheet(4, -1, 1, 1), NONE);
        c.due("a missing one, n above 10", c.x.sheet(3, 11, 1, 1), NONE);
        c.due("dish(3, 1), nothing changed", c.x.dish(3, 1), 4);
        c.due("missing", c.x.sheet(3, -5, 1, 1), -3);
        for (int d = 0; d < 4; d++) c.due("dish(" + d + ", 1)", c.x.dish(d, 1), 0);
        c.due("none of them", c.x.sheet(2, 0, 5, 5), 0);
    }

    private static void promise12() {
        Court c = new Court("promise 12", KITCHEN);
        c.serve(0);
        c.due("served already", c.x.serve(0), -2);
        c.due("does not share", c.x.serve(2), -3);
        c.serve(1);
        c.x.law(2, 1);
        c.due("cold behind hot", c.x.serve(2), -4);
        c.x.law(2, 2);
        c.serve(2);
        c.due("cold behind cold", c.x.serve(3), -4);
        c.x.law(2, 0);
        c.x.law(1, 1);
        c.due("more than times", c.x.serve(3), -5);
        c.x.law(1, 2);
        c.x.store(3, 1);
        c.due("more than its store", c.x.serve(3), -6);
        c.x.store(3, 2);
        c.serve(3);
        for (int v : new int[] {5, NONE, LOW, HIGH, 32}) c.due("serve(" + v + ")", c.x.serve(v), NONE);
        c.due("count(2)", c.x.count(2), 4);
    }

    private static void promise12Order() {
        Court c = new Court("promise 12, the first why", "ab1H;cd2;ab3;a4H;ab5H");
        c.x.law(0, 2);
        c.serve(0);
        c.x.law(1, 1);
        c.x.law(2, 1);
        c.x.store(0, 0);
        c.due("all but the first", c.x.serve(0), -2);
        c.due("shares one of two", c.x.serve(3), -3);
        c.due("does not share and is cold", c.x.serve(1), -3);
        c.due("heat ahead of times", c.x.serve(2), -4);
        c.due("times ahead of store", c.x.serve(4), -5);
        c.x.law(1, 9);
        c.due("store", c.x.serve(4), -6);
        c.x.store(0, 99);
        c.x.law(2, 2);
        c.due("hot behind hot", c.x.serve(4), -4);
        c.serve(2);
        Court d = new Court("promise 12, any stuff", "ab1;bc2;cd3");
        d.serve(0, 1);
        d.x.store(0, 0);
        d.due("a, served, is in more than its store", d.x.serve(2), -6);
        d.due("can()", d.x.can(), 0);
        d.due("longest()", d.x.longest(), 0);
        d.x.store(0, 1);
        d.serve(2);
        Court e = new Court("promise 12, heat anywhere ahead", "a1H;a2;a3H");
        e.serve(1, 0, 2);
        e.x.over();
        e.x.law(2, 1);
        e.serve(1, 0, 2);
        e.x.over();
        e.serve(0, 2);
        e.due("cold behind two hot ones", e.x.serve(1), -4);
    }

    private static void promise13to15() {
        Court c = new Court("promise 13 to 15", KITCHEN);
        c.due("back()", c.x.back(), NONE);
        c.due("over()", c.x.over(), 0);
        c.due("can()", c.x.can(), 31);
        c.serve(0, 1);
        c.due("can()", c.x.can(), 4);
        c.due("back()", c.x.back(), 1);
        c.due("can()", c.x.can(), 2 + 8);
        c.due("count(3)", c.x.count(3), 0);
        c.serve(1, 2);
        c.x.store(7, 4);
        c.due("over()", c.x.over(), 3);
        int[] left = {98, 97, 97, 98, 99, 99, 99, 4};
        for (int s = 0; s < 8; s++) c.due("store(" + s + ", 1)", c.x.store(s, 1), left[s]);
        c.due("count(2)", c.x.count(2), 0);
        c.due("back()", c.x.back(), NONE);
        c.serve(0);
        c.x.store(0, 0);
        c.due("over()", c.x.over(), 1);
        c.due("a store is never below 0", c.x.store(0, 0), 0);
        c.due("store(1, 1)", c.x.store(1, 1), 0);
        c.due("can(), without a", c.x.can(), 2 + 4 + 16);
    }

    private static void promise16() {
        Court c = new Court("promise 16", KITCHEN);
        c.due("a menu", c.menu(0, "ABCDE"), 5);
        c.due("one with all kinds of things", c.menu(1, "A?AA??"), 6);
        c.due("ten", c.menu(2, "ABCDEABCDE"), 10);
        c.due("count(7)", c.x.count(7), 7);
        c.due("eleven", c.menu(2, "ABCDEABCDEA"), -11);
        c.due("eleven, the last can't be", c.menu(2, "ABCDEABCDEx"), -11);
        c.due("no such dish", c.menu(2, "ABF"), -3);
        c.due("a small letter", c.menu(2, "a"), -1);
        c.due("a fault in the tenth", c.menu(2, "ABCDEABCD!A"), -10);
        c.due("count(7), nothing changed", c.x.count(7), 7);
        c.due("an empty one: none", c.menu(1, ""), 0);
        c.due("count(7)", c.x.count(7), 5);
        for (int i : new int[] {3, -1, LOW, HIGH}) {
            c.due("no such menu", c.menu(i, "x"), -100);
            c.due("count(6)", c.x.count(6), 0);
        }
        Court d = new Court("promise 16, without dishes");
        d.due("A", d.menu(0, "A"), -1);
        d.due("??", d.menu(0, "??"), 2);
        d.due("look(0)", d.x.look(0), 0, NONE, 0, 0);
    }

    private static void promise17() {
        Court c = new Court("promise 17", KITCHEN);
        c.menu(0, "ABCD");
        c.due("lawful", c.x.look(0), -2, 0, 31, 1);
        c.menu(0, "ABDC");
        c.due("no share", c.x.look(0), 2, -3, 15, 1);
        c.menu(0, "A?C");
        c.due("not known", c.x.look(0), 1, NONE, 10, 0);
        c.menu(0, "ABA");
        c.due("again", c.x.look(0), 2, -2, 15, 1);
        c.x.law(2, 1);
        c.menu(0, "ABC");
        c.due("heat", c.x.look(0), 2, -4, 15, 1);
        c.x.law(2, 0);
        c.x.law(1, 1);
        c.due("times", c.x.look(0), 1, -5, 10, 0);
        c.x.law(1, 9);
        c.x.store(0, 0);
        c.due("store", c.x.look(0), 0, -6, 0, 0);
        c.serve(1);
        c.due("from nothing on", c.x.look(0), 0, -6, 0, 0);
        c.x.store(0, 99);
        c.due("from nothing on", c.x.look(0), -2, 0, 22, 1);
        for (int i : new int[] {1, 3, -1, LOW, HIGH}) c.due("look(" + i + ")", c.x.look(i), -3, 0, 22, 1);
    }

    private static void promise18and19() {
        Court c = new Court("promise 18, 19", KITCHEN);
        c.menu(1, "?BC");
        c.due("swap(1, 0, 2)", c.x.swap(1, 0, 2), true);
        c.due("look(1)", c.x.look(1), 2, NONE, 12, 1);
        c.due("turn(1)", c.x.turn(1), true);
        c.due("look(1)", c.x.look(1), 0, NONE, 0, 0);
        int[][] wrong = {{1, 0, 0}, {1, 0, 3}, {1, 3, 0}, {1, -1, 0}, {1, 0, -1}, {0, 0, 1}, {3, 0, 1}, {-1, 0, 1},
            {LOW, 0, 1}, {1, LOW, HIGH}};
        for (int[] k : wrong) c.due("swap(" + k[0] + ", " + k[1] + ", " + k[2] + ")", c.x.swap(k[0], k[1], k[2]), false);
        for (int i : new int[] {0, 3, -1, LOW, HIGH}) c.due("turn(" + i + ")", c.x.turn(i), false);
        c.due("look(1)", c.x.look(1), 0, NONE, 0, 0);
        c.menu(2, "ABCD");
        c.due("turn(2)", c.x.turn(2), true);
        c.due("fills(2)", c.x.fills(2), 1, 3, 2, 1, 0);
        c.menu(2, "D");
        c.due("turn(2)", c.x.turn(2), true);
        c.due("fills(2)", c.x.fills(2), 1, 3);
    }

    private static void promise20() {
        Court c = new Court("promise 20", KITCHEN);
        c.menu(0, "AB");
        c.menu(1, "CD");
        c.due("joined(0, 1)", c.x.joined(0, 1), -2, 0);
        c.due("joined(1, 0)", c.x.joined(1, 0), -2, 0);
        c.due("joined(0, 0)", c.x.joined(0, 0), 2, -2);
        c.menu(1, "DC");
        c.due("joined(0, 1)", c.x.joined(0, 1), 2, -3);
        c.due("joined(1, 0)", c.x.joined(1, 0), 2, -3);
        c.menu(1, "CB");
        c.due("joined(0, 1)", c.x.joined(0, 1), 3, -2);
        c.menu(1, "BA");
        c.due("joined(0, 1)", c.x.joined(0, 1), 2, -2);
        c.menu(0, "ABCDEABCDE");
        c.menu(1, "ABCDEABCDE");
        c.due("joined(0, 1)", c.x.joined(0, 1), 4, -3);
        c.menu(1, "A?");
        int[][] wrong = {{0, 1}, {1, 0}, {0, 2}, {2, 0}, {3, 0}, {0, 3}, {-1, 0}, {0, LOW}};
        for (int[] k : wrong) c.due("joined(" + k[0] + ", " + k[1] + ")", c.x.joined(k[0], k[1]), -3, -3);
    }

    private static void promise21() {
        Court c = new Court("promise 21", KITCHEN);
        c.menu(0, "ABC");
        c.menu(1, "A?C");
        c.menu(2, "AD");
        c.due("falls(1, 9, 0)", c.x.falls(1, 9, 0), 0);
        c.due("falls(2, 9, 0)", c.x.falls(2, 9, 0), 5);
        c.due("falls(1, 1, 0)", c.x.falls(1, 1, 0), 5);
        c.due("falls(1, 9, 1)", c.x.falls(1, 9, 1), 1);
        c.due("falls(1, 9, 2)", c.x.falls(1, 9, 2), 4);
        c.due("falls(8, 1, 2)", c.x.falls(8, 1, 2), 5);
        c.x.store(2, 0);
        c.due("not lawful as it is", c.x.falls(8, 1, 2), 4);
        int[][] wrong = {{0, 1, 0}, {9, 1, 0}, {1, 0, 0}, {1, 10, 0}, {1, 1, -1}, {1, 1, 3}, {LOW, HIGH, LOW}};
        for (int[] k : wrong) c.due("falls(" + k[0] + ", " + k[1] + ", " + k[2] + ")", c.x.falls(k[0], k[1], k[2]), NONE);
        c.due("the law stays", c.x.law(0, 1), 1);
    }

    private static void promise22and23() {
        Court c = new Court("promise 22, 23", KITCHEN);
        c.due("longest()", c.x.longest(), 4, 0, 1, 2, 3);
        int[] ways = {1, 5, 8, 8, 8, 0, 0, 0, 0, 0, 0};
        for (int n = 0; n <= 10; n++) c.due("ways(" + n + ")", c.x.ways(n), ways[n]);
        for (int n : new int[] {NONE, 11, LOW, HIGH}) c.due("ways(" + n + ")", c.x.ways(n), NONE);
        c.serve(3);
        c.due("longest()", c.x.longest(), 3, 0, 1, 2);
        int[] further = {1, 2, 2, 2, 0};
        for (int n = 0; n < 5; n++) c.due("ways(" + n + ")", c.x.ways(n), further[n]);
        c.x.back();
        c.serve(4);
        c.due("longest()", c.x.longest(), 0);
        c.due("ways(0)", c.x.ways(0), 1);
        Court d = new Court("promise 23, ten alike", "a1;a1;a1;a1;a1;a1;a1;a1;a1;a1");
        d.due("ways(10), a in ten", d.x.ways(10), 0);
        d.due("ways(9)", d.x.ways(9), 3628800);
        d.due("longest()", d.x.longest(), 9, 0, 1, 2, 3, 4, 5, 6, 7, 8);
        d.serve(9, 0);
        d.due("longest()", d.x.longest(), 7, 1, 2, 3, 4, 5, 6, 7);
        Court e = new Court("promise 23, ten of ten", "ab1;bc1;cd1;de1;ef1;fg1;gh1;ah1;aceg1;bdfh1");
        e.due("longest()", e.x.longest(), 10, 0, 1, 2, 3, 4, 5, 6, 8, 7, 9);
    }

    private static void promise24and25() {
        Court c = new Court("promise 24, 25", KITCHEN + ";abcd1H");
        c.due("between(0, 2)", c.x.between(0, 2), 5, 0, 1, 5, 3, 2);
        c.due("shortest(0, 2)", c.x.shortest(0, 2), 3, 0, 1, 2);
        c.due("between(0, 5)", c.x.between(0, 5), 5, 0, 1, 2, 3, 5);
        c.due("shortest(0, 5)", c.x.shortest(0, 5), 2, 0, 5);
        c.due("between(4, 4)", c.x.between(4, 4), 1, 4);
        c.due("shortest(4, 4)", c.x.shortest(4, 4), 1, 4);
        c.due("between(0, 4)", c.x.between(0, 4), -2, 4);
        c.due("shortest(0, 4)", c.x.shortest(0, 4), -2, 4);
        c.serve(0, 1);
        c.due("from nothing on", c.x.between(0, 1), 5, 0, 3, 2, 5, 1);
        c.x.law(2, 1);
        c.due("from cold to hot", c.x.between(2, 1), 5, 2, 3, 0, 5, 1);
        c.due("from hot to cold", c.x.between(1, 2), -2, 2, 3, 0, 5, 1);
        c.x.law(2, 2);
        c.due("hot and cold by turns", c.x.between(0, 2), 3, 0, 1, 2);
        c.x.store(4, 0);
        c.due("out of store", c.x.between(4, 4), -2, 0, 1, 2);
        c.due("out of store", c.x.shortest(4, 4), -2, 0, 1, 2);
        for (int v : new int[] {NONE, 6, LOW, HIGH}) {
            c.due("between(" + v + ", 0)", c.x.between(v, 0), NONE);
            c.due("between(0, " + v + ")", c.x.between(0, v), NONE);
            c.due("shortest(" + v + ", 0)", c.x.shortest(v, 0), NONE);
            c.due("shortest(0, " + v + ")", c.x.shortest(0, v), NONE);
        }
        c.row("as it was", 0, 1, 2);
    }

    private static void promise26() {
        Court c = new Court("promise 26", KITCHEN);
        c.due("bears(0)", c.x.bears(0), 2, 0, 3);
        c.due("bears(1)", c.x.bears(1), 4, 0, 1, 2, 3);
        c.serve(1);
        c.due("what was served counts not", c.x.bears(0), 2, 0, 3);
        for (int v : new int[] {NONE, 2, LOW, HIGH}) c.due("bears(" + v + ")", c.x.bears(v), NONE, 0, 3);
        c.serve(2, 3, 0);
        c.due("none", c.x.bears(0), 0);
    }

    private static void promise27to29() {
        Court c = new Court("promise 27 to 29", KITCHEN);
        int[] beside = {10, 5, 10, 5, 0};
        for (int d = 0; d < 5; d++) c.due("beside(" + d + ")", c.x.beside(d), beside[d]);
        for (int v : new int[] {NONE, 5, LOW, HIGH}) c.due("beside(" + v + ")", c.x.beside(v), NONE);
        c.due("parts()", c.x.parts(), 2, 15, 16);
        c.due("rare()", c.x.rare(), 4, 16);
        c.x.law(0, 2);
        c.due("beside(0)", c.x.beside(0), 0);
        c.due("parts()", c.x.parts(), 5, 1, 2, 4, 8, 16);
        c.kitchen("abcd1");
        c.due("beside(5)", c.x.beside(5), 15);
        c.due("parts()", c.x.parts(), 2, 47, 16);
        c.x.law(2, 2);
        c.due("heat counts not", c.x.beside(0), 32);
        c.x.store(0, 0);
        c.due("nor stores", c.x.parts(), 2, 47, 16);
        Court d = new Court("promise 28, 29, none");
        d.due("rare()", d.x.rare(), -2);
        d.due("parts()", d.x.parts(), 0);
        Court e = new Court("promise 28, 29, far joined", "gh1;ab1;ef1;bc1;fg1;cde1");
        e.due("rare()", e.x.rare(), 0, 2);
        e.due("rare(), -2 left the row", e.x.parts(), 1, 63);
    }

    private static void promise30() {
        Court c = new Court("promise 30", KITCHEN);
        c.due("round()", c.x.round(), 4, 0, 1, 2, 3);
        c.serve(0);
        c.due("from nothing on", c.x.round(), 4, 0, 1, 2, 3);
        c.x.law(2, 1);
        c.due("it turns where it is cold", c.x.round(), 4, 0, 3, 2, 1);
        c.x.law(2, 2);
        c.due("none by turns", c.x.round(), -2, 0, 3, 2, 1);
        Court d = new Court("promise 30, three at least", "a1;a1");
        d.due("two are none", d.x.round(), -2);
        d.kitchen("a1");
        d.due("three", d.x.round(), 3, 0, 1, 2);
        d.x.law(1, 2);
        d.due("by times", d.x.round(), -2, 0, 1, 2);
        Court e = new Court("promise 30, not from the first", "h1;ab1;bc1;ac1");
        e.due("round()", e.x.round(), 3, 1, 2, 3);
    }

    private static void promise31() {
        Court c = new Court("promise 31", KITCHEN);
        int[] shut = {0, 16, 16, 16, 31, 31, 31, 31, 31, 31};
        for (int n = 0; n < 10; n++) c.due("shut(" + n + ")", c.x.shut(n), shut[n]);
        for (int n : new int[] {NONE, 10, LOW, HIGH}) c.due("shut(" + n + ")", c.x.shut(n), NONE);
        c.serve(4);
        c.due("from nothing on", c.x.shut(1), 16);
        c.x.store(4, 0);
        c.due("out of store", c.x.shut(0), 16);
        Court d = new Court("promise 31, a path", "a1;ab1;b1;c1;cd1");
        d.due("shut(2)", d.x.shut(2), 24);
        d.due("shut(1)", d.x.shut(1), 0);
    }

    private static void promise32and33() {
        Court c = new Court("promise 32, 33", KITCHEN);
        c.due("best(2, 99)", c.x.best(2, 99), 1, 4, 0, 3);
        c.due("best(2, 19)", c.x.best(2, 19), 1, 4, 0, 3);
        c.due("best(2, 18)", c.x.best(2, 18), 1, 3, 0, 1);
        c.due("best(2, 11)", c.x.best(2, 11), -2, 3, 0, 1);
        c.due("best(0, 0)", c.x.best(0, 0), 1, 0);
        c.due("fair(2, 99)", c.x.fair(2, 99), 1, 2, 0, 3);
        c.due("fair(1, 3)", c.x.fair(1, 3), 1, 0, 4);
        c.due("fair(0, 0)", c.x.fair(0, 0), 1, 0);
        c.due("fair(5, 999)", c.x.fair(5, 999), -2, 0);
        c.serve(3);
        c.due("what was served counts not", c.x.best(1, 10), 1, 2, 0);
        c.due("nor its cost", c.x.fair(1, 7), 1, 0, 2);
        c.rule("0-c-g");
        c.due("below 0", c.x.best(1, 999), 1, -15, 2);
        c.due("below 0", c.x.fair(1, 999), 1, -8, 2);
        c.due("best(0, 0)", c.x.best(0, 0), 1, 0);
        int[][] wrong = {{-1, 5}, {11, 5}, {1, -1}, {1, 1000}, {LOW, 1}, {1, LOW}, {1, HIGH}};
        for (int[] k : wrong) {
            c.due("best(" + k[0] + ", " + k[1] + ")", c.x.best(k[0], k[1]), NONE, 0);
            c.due("fair(" + k[0] + ", " + k[1] + ")", c.x.fair(k[0], k[1]), NONE, 0);
        }
        Court d = new Court("promise 32, 33, without guests", "a1;ab2");
        d.due("best(2, 3)", d.x.best(2, 3), 1, 0, 0, 1);
        d.due("fair(0, 3)", d.x.fair(0, 3), -2, 0, 0, 1);
        d.due("fair(11, 3)", d.x.fair(11, 3), NONE, 0, 0, 1);
    }

    private static void promise34and35() {
        Court c = new Court("promise 34, 35", KITCHEN);
        c.due("cheap(0)", c.x.cheap(0), 0);
        c.due("cheap(1)", c.x.cheap(1), 3, 4);
        c.due("cheap(2)", c.x.cheap(2), 19, 0, 3);
        c.due("cheap(3)", c.x.cheap(3), -2, 0, 3);
        c.due("dear(1)", c.x.dear(1), 10, 0);
        c.due("dear(3)", c.x.dear(3), 26, 0, 3, 2);
        c.due("dear(4)", c.x.dear(4), 31, 0, 1, 2, 3);
        c.due("dear(5)", c.x.dear(5), -2, 0, 1, 2, 3);
        c.due("dear(0)", c.x.dear(0), 0);
        c.serve(1);
        c.due("dear(1)", c.x.dear(1), 10, 0);
        c.due("cheap(1), hungry at what was served", c.x.cheap(1), 10, 0);
        for (int n : new int[] {NONE, 11, LOW, HIGH}) {
            c.due("cheap(" + n + ")", c.x.cheap(n), NONE, 0);
            c.due("dear(" + n + ")", c.x.dear(n), NONE, 0);
        }
    }

    private static void promise36() {
        Court c = new Court("promise 36", KITCHEN);
        c.due("game()", c.x.game(), 1, 4, 1);
        c.serve(0);
        c.due("game()", c.x.game(), 1, 1, 3);
        c.serve(1);
        c.due("game()", c.x.game(), 0, NONE, 2);
        c.x.over();
        c.serve(4);
        c.due("nothing can follow", c.x.game(), 0, NONE, 0);
        Court d = new Court("promise 36, as few and as many", "ab1;bc1;bd1;de1;ef1");
        d.serve(0);
        d.due("all lose: as many as can be", d.x.game(), 0, NONE, 4);
        Court f = new Court("promise 36, the fewest of those that win", "ab1;bd1;ac1;de1;ef1");
        f.serve(0);
        f.due("game()", f.x.game(), 1, 2, 1);
        Court g = new Court("promise 36, the first of equal ones", "ab1;bd1;ac1");
        g.serve(0);
        g.due("game()", g.x.game(), 1, 1, 1);
        Court e = new Court("promise 36, none");
        e.due("game()", e.x.game(), 0, NONE, 0);
    }

    private static void promise37() {
        Court c = new Court("promise 37", KITCHEN);
        c.due("greedy()", c.x.greedy(), 1, 4);
        c.serve(4);
        c.due("who is on turn can't", c.x.greedy(), 1, 0);
        c.x.back();
        c.serve(0, 1);
        c.due("greedy()", c.x.greedy(), 1, 2);
        c.serve(2);
        c.due("the other one can't", c.x.greedy(), 0, 1);
        Court d = new Court("promise 37, by joy", "a1;ab2;ac3;d4;Gbc-");
        d.due("of equal ones the first: a B first", d.x.greedy(), 0, 3);
        d.rule("d=3");
        d.due("the lone one", d.x.greedy(), 0, 1);
        Court e = new Court("promise 37, none");
        e.due("greedy()", e.x.greedy(), 1, 0);
    }

    private static void promise38() {
        Court c = new Court("promise 38", KITCHEN);
        c.menu(0, "ACB");
        c.due("mend(0, NONE)", c.x.mend(0, NONE), 1, 3, 2, 1);
        c.menu(1, "ABC");
        c.due("none changed", c.x.mend(1, NONE), 0, 0, 1, 2);
        c.due("without a", c.x.mend(1, 0), -2, 0, 1, 2);
        c.due("without h", c.x.mend(1, 7), 0, 0, 1, 2);
        c.menu(2, "EE");
        c.due("all changed", c.x.mend(2, NONE), 2, 0, 1);
        c.due("all changed, without a", c.x.mend(2, 0), 2, 1, 2);
        c.serve(1);
        c.due("from nothing on", c.x.mend(2, NONE), 2, 0, 1);
        c.x.store(0, 1);
        c.x.store(3, 0);
        c.due("by stores", c.x.mend(2, NONE), 2, 0, 1);
        c.due("the store stays", c.x.store(1, 99), 99);
        c.menu(2, "A?");
        for (int i : new int[] {2, 3, -1, LOW, HIGH}) c.due("mend(" + i + ", NONE)", c.x.mend(i, NONE), -3, 0, 1);
        for (int s : new int[] {8, -2, LOW, HIGH}) c.due("mend(0, " + s + ")", c.x.mend(0, s), NONE, 0, 1);
        Court none = new Court("promise 38, another number is asked first");
        for (int s : new int[] {8, -2, -633183154, LOW, HIGH}) {
            for (int i : new int[] {0, 2, 3, -1, LOW, HIGH}) {
                c.due("mend(" + i + ", " + s + ")", c.x.mend(i, s), NONE, 0, 1);
                none.due("mend(" + i + ", " + s + ")", none.x.mend(i, s), NONE);
            }
        }
        none.due("mend(0, 7)", none.x.mend(0, 7), -3);
        c.menu(0, "ABCDEABCDE");
        c.due("more than there are", c.x.mend(0, NONE), -2, 0, 1);
    }

    private static void promise39and40() {
        Court c = new Court("promise 39, 40", KITCHEN);
        c.menu(0, "A?C");
        c.due("fills(0)", c.x.fills(0), 2, 0, 1, 2);
        int[] sure = {1, 0, 4, -3};
        for (int k = 0; k < 4; k++) c.due("sure(0, " + k + ")", c.x.sure(0, k), sure[k]);
        c.menu(1, "AB??");
        c.due("fills(1)", c.x.fills(1), 1, 0, 1, 2, 3);
        c.due("sure(1, 2)", c.x.sure(1, 2), 4);
        c.due("sure(1, 3)", c.x.sure(1, 3), 8);
        c.menu(2, "?E");
        c.due("fills(2)", c.x.fills(2), 0);
        c.due("sure(2, 1)", c.x.sure(2, 1), 0);
        c.due("all of one", c.menu(2, "?"), 1);
        c.due("fills(2)", c.x.fills(2), 5, 0);
        c.due("sure(2, 0)", c.x.sure(2, 0), 0);
        c.menu(2, "????");
        c.due("fills(2)", c.x.fills(2), 8, 0, 1, 2, 3);
        c.serve(0);
        c.due("from nothing on", c.x.fills(2), 8, 0, 1, 2, 3);
        c.menu(2, "ABCD");
        c.due("without ?", c.x.fills(2), 1, 0, 1, 2, 3);
        c.menu(2, "ABA");
        c.due("the same again", c.x.fills(2), 0);
        c.menu(2, "");
        for (int i : new int[] {2, 3, -1, LOW, HIGH}) {
            c.due("fills(" + i + ")", c.x.fills(i), -3);
            c.due("sure(" + i + ", 0)", c.x.sure(i, 0), -3);
        }
        for (int k : new int[] {NONE, 3, 10, LOW, HIGH}) c.due("sure(0, " + k + ")", c.x.sure(0, k), -3);
        Court d = new Court("promise 39, ten holes", "a1;ab1;ac1;ad1;ae1;af1;ag1;ah1;a2;b3");
        d.menu(0, "?????????");
        d.due("fills(0)", d.x.fills(0), 362880 + 7 * 2 * 40320 / 7, 0, 1, 2, 3, 4, 5, 6, 7, 8);
    }

    private static void promise41and42() {
        Court c = new Court("promise 41, 42", "a1+3;a2;b3+9;c4+1");
        c.menu(0, "ACD");
        c.due("hearths(0)", c.x.hearths(0), 2, 7, 2, 11);
        c.menu(1, "BBB");
        c.due("none is cooked", c.x.hearths(1), 0, 10, 11, 12);
        c.menu(2, "ABBA");
        c.due("one ends as the next begins", c.x.hearths(2), 1, 7, 11, 12, 10);
        c.menu(2, "CCCCCCCCCC");
        c.due("nine at once", c.x.hearths(2), 9, 1, 2, 3, 4, 5, 6, 7, 8, 9, 10);
        c.due("late(2, 9)", c.x.late(2, 9), 0, 9, 9, 9, 9, 9, 9, 9, 9, 9, 18);
        c.due("late(2, 1)", c.x.late(2, 1), 71, 9, 18, 27, 36, 45, 54, 63, 72, 81, 90);
        c.due("late(0, 1)", c.x.late(0, 1), 1, 3, 12, 13);
        c.due("late(0, 2)", c.x.late(0, 2), 0, 3, 9, 4);
        c.due("late(1, 1)", c.x.late(1, 1), 0, 0, 0, 0);
        for (int h : new int[] {0, 10, NONE, LOW, HIGH}) c.due("late(0, " + h + ")", c.x.late(0, h), NONE, 0, 0, 0);
        c.menu(1, "A?");
        c.menu(2, "");
        for (int i : new int[] {1, 2, 3, -1, LOW, HIGH}) {
            c.due("hearths(" + i + ")", c.x.hearths(i), -3, 0, 0, 0);
            c.due("late(" + i + ", 1)", c.x.late(i, 1), -3, 0, 0, 0);
        }
        Court none = new Court("promise 42, another h is asked first");
        for (int h : new int[] {0, 10, NONE, LOW, HIGH}) {
            for (int i : new int[] {0, 1, 2, 3, -1, LOW, HIGH}) {
                c.due("late(" + i + ", " + h + ")", c.x.late(i, h), NONE, 0, 0, 0);
                none.due("late(" + i + ", " + h + ")", none.x.late(i, h), NONE);
            }
        }
        none.due("late(0, 9)", none.x.late(0, 9), -3);
    }

    private static void promise43and44() {
        Court c = new Court("promise 43, 44", KITCHEN);
        c.menu(0, "DA");
        c.due("poison(0, 1)", c.x.poison(0, 1), 0);
        c.due("poison(0, 3)", c.x.poison(0, 3), 11);
        c.due("nobody died", c.x.poison(0, 0), 244);
        c.due("eats(0, 0)", c.x.eats(0, 0), 2, 3, 11, 2);
        c.menu(1, "BAB");
        c.due("poison(1, 2)", c.x.poison(1, 2), 4);
        c.due("poison(1, 3)", c.x.poison(1, 3), 3);
        c.due("eats(1, 0)", c.x.eats(1, 0), 1, 2, 3, 1);
        c.due("the same twice", c.x.eats(1, 1), 3, 7, 7, 3);
        for (int died : new int[] {4, NONE, LOW, HIGH}) c.due("poison(0, " + died + ")", c.x.poison(0, died), NONE);
        for (int g : new int[] {2, NONE, LOW, HIGH}) c.due("eats(0, " + g + ")", c.x.eats(0, g), NONE, 7, 7, 3);
        c.menu(1, "A?");
        for (int i : new int[] {1, 2, 3, -1, LOW, HIGH}) {
            c.due("poison(" + i + ", 1)", c.x.poison(i, 1), -3);
            c.due("eats(" + i + ", 0)", c.x.eats(i, 0), -3, 7, 7, 3);
        }
        c.due("bits of none such are asked first", c.x.poison(3, 4), NONE);
        c.due("no such guest is asked first", c.x.eats(3, 2), NONE);
        Court d = new Court("promise 43, without guests", "a1");
        d.menu(0, "A");
        d.due("poison(0, 0)", d.x.poison(0, 0), 255);
        d.due("poison(0, 1)", d.x.poison(0, 1), NONE);
    }

    private static void promise45() {
        Court c = new Court("promise 45");
        c.due("none", c.x.made(), 0, 0);
        c.kitchen("ab1;bc1");
        c.due("they can be without", c.x.made(), 0, 0);
        c.kitchen("de1");
        c.due("made()", c.x.made(), 2, 9);
        c.x.store(3, 1);
        c.due("d is used up", c.x.made(), 2, 17);
        c.x.store(4, 1);
        c.due("there is none such", c.x.made(), -2, 17);
        c.x.store(4, 0);
        c.due("not enough for what there is", c.x.made(), -2, 17);
        c.x.store(3, 99);
        c.x.store(4, 99);
        c.serve(2);
        c.due("from nothing on", c.x.made(), 2, 9);
        c.kitchen("fg1");
        c.due("one can't join three parts", c.x.made(), -2, 9);
        Court d = new Court("promise 45, heat", "a1H;b1H");
        d.due("between two hot ones", d.x.made(), 2, 3);
        d.x.law(2, 1);
        d.due("a cold one can't", d.x.made(), -2, 3);
        d.x.law(2, 2);
        d.due("by turns it can", d.x.made(), 2, 3);
        d.x.law(0, 2);
        d.due("shares one alone", d.x.made(), -2, 3);
        Court f = new Court("promise 45, all of them", "abcd1;efgh1");
        f.x.law(0, 4);
        f.due("eight", f.x.made(), 8, 255);
        Court g = new Court("promise 45, the fewest ahead of the least", "abh1;cdh1");
        g.x.law(0, 2);
        g.due("a, c, h, not a, b, c, d", g.x.made(), 3, 133);
        g.x.store(7, 2);
        g.due("without h", g.x.made(), 4, 15);
        Court h = new Court("promise 45, of as few the least", "abh1;cdg1;h2;g2;ab1;cd1");
        h.due("a and c", h.x.made(), 2, 5);
        h.x.store(0, 2);
        h.x.store(1, 2);
        h.due("not a, nor b", h.x.made(), 2, 132);
        Court e = new Court("promise 45, ten", "ab1;ac1;ad1;ae1;af1;gh1;g1;h1;gh2;gh3");
        e.due("an eleventh", e.x.made(), 2, 65);
    }

    private static void promise46and47() {
        Court c = new Court("promise 46, 47", KITCHEN);
        c.due("nothing kept", c.x.again(0), false);
        c.serve(0, 1);
        c.x.law(0, 1);
        c.x.law(1, 5);
        c.x.store(4, 7);
        c.due("keep(0)", c.x.keep(0), true);
        c.x.over();
        c.x.law(0, 2);
        c.x.law(1, 6);
        c.x.law(2, 2);
        c.x.store(4, 8);
        c.due("keep(1)", c.x.keep(1), true);
        c.due("again(0)", c.x.again(0), true);
        c.due("count(2)", c.x.count(2), 2);
        c.due("law(0, 1)", c.x.law(0, 1), 1);
        c.due("law(1, 9)", c.x.law(1, 9), 5);
        c.due("law(2, 0)", c.x.law(2, 0), 0);
        c.due("store(4, 1)", c.x.store(4, 1), 7);
        c.due("store(1, 99)", c.x.store(1, 99), 99);
        c.due("back()", c.x.back(), 1);
        c.due("again(0), still kept", c.x.again(0), true);
        c.due("back()", c.x.back(), 1);
        c.due("again(1)", c.x.again(1), true);
        c.due("store(1, 99)", c.x.store(1, 99), 97);
        c.due("count(2)", c.x.count(2), 0);
        c.due("law(2, 0)", c.x.law(2, 0), 2);
        c.kitchen("G-");
        c.due("a guest came", c.x.again(1), true);
        c.due("guests stay", c.x.count(1), 3);
        c.kitchen("h1");
        c.due("a dish came", c.x.again(1), false);
        c.due("a dish came", c.x.again(0), false);
        c.due("keep(0)", c.x.keep(0), true);
        c.due("again(0)", c.x.again(0), true);
        for (int i : new int[] {2, NONE, LOW, HIGH}) {
            c.due("keep(" + i + ")", c.x.keep(i), false);
            c.due("again(" + i + ")", c.x.again(i), false);
        }
    }

    private static void promise48and49() {
        Court c = new Court("promise 48, 49", KITCHEN);
        c.serve(0, 1);
        c.menu(1, "A");
        c.x.best(1, 99);
        c.x.sign(0);
        int[] counts = {5, 2, 2, 1, 15, 2, 4, 2};
        for (int what = 0; what < 8; what++) c.due("count(" + what + ")", c.x.count(what), counts[what]);
        for (int v : new int[] {NONE, 8, LOW, HIGH}) c.due("count(" + v + ")", c.x.count(v), NONE);
        c.due("row(0)", c.x.row(0), 1);
        c.due("row(1)", c.x.row(1), 2);
        for (int v : new int[] {NONE, 2, LOW, HIGH}) c.none("row(" + v + ")", () -> c.x.row(v));
        c.x.ways(1);
        c.x.can();
        c.x.shut(1);
        c.row("as it was", 1, 2);
        c.x.sheet(3, 0, 0, 0);
        c.due("count(4)", c.x.count(4), 0);
        Court d = new Court("promise 49, none");
        d.none("row(0)", () -> d.x.row(0));
        d.x.longest();
        d.none("row(0)", () -> d.x.row(0));
    }
}
