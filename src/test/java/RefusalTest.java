import java.util.NoSuchElementException;
import java.util.Random;

/** Calls with any numbers at all: nothing but the document's exception comes out, and what is refused changes nothing. */
public final class RefusalTest {
    private static final int[] STRANGE = {Integer.MIN_VALUE, Integer.MAX_VALUE, -1, -2, -3, 0, 1, 2, 3, 4, 5, 6, 7, 8, 9,
        10, 11, 12, 31, 32, 33, 63, 64, 99, 100, 999, 1000, 1023, 1024, -31, -32, -33, 255, 256, 65535, 1 << 30};
    private final Random random;
    private final Court court;
    private final NextMustShare x;
    private int calls;

    private RefusalTest(long seed) {
        random = new Random(seed);
        court = new Court("refusals " + seed);
        x = court.x;
    }

    public static void main(String[] args) {
        for (int run = 0; run < 60 && Court.wrong == 0; run++) new RefusalTest(run).run(run);
        Court.endTests("RefusalTest");
    }

    private void run(int run) {
        if (run % 4 > 0) {
            court.kitchen("ab10;bc20H+3;cd30+9;ad40;ae5H;bf6;cg7H;dh8+1;abcd9;efgh99");
            court.kitchen("Ga-b;Gb-;Gcd-a;G-h;Gefgh-;Gab-cd");
            court.menu(0, "ABCD");
            court.menu(1, "?B?A??");
            court.menu(2, "HDAB");
        }
        for (calls = 0; calls < 400; calls++) {
            if (random.nextInt(10) == 0) {
                change();
            } else {
                refuse(random.nextInt(49));
            }
        }
    }

    private void change() {
        int can = x.can();
        for (int d = 0; d < 10; d++) {
            if ((can >> d & 1) == 1 && random.nextInt(3) == 0) {
                x.serve(d);
                return;
            }
        }
        int pick = random.nextInt(5);
        if (pick == 0) x.law(random.nextInt(3), 1 + random.nextInt(2));
        if (pick == 1) x.store(random.nextInt(8), random.nextInt(4) * 33);
        if (pick == 2) x.over();
        if (pick == 3) x.law(1, 9);
        if (pick == 4) x.sign(random.nextInt());
    }

    private int any() {
        return random.nextInt(8) == 0 ? random.nextInt() : STRANGE[random.nextInt(STRANGE.length)];
    }

    private void refuse(int call) {
        int signs = x.count(6);
        String before = state();
        long answer = 0;
        boolean refused;
        int a = any(), b = any(), c = any(), d = any();
        try {
            answer = ask(call, a, b, c, d);
            refused = answer == -1 && isRefusal(call) || answer == 0 && (call == 2 || call == 18 || call == 19 || call == 45 || call == 46);
        } catch (NoSuchElementException e) {
            refused = true;
            court.due("call " + call + " may throw", call == 4 || call == 5 || call == 6 || call == 48, true);
        } catch (RuntimeException e) {
            refused = false;
            court.due("call " + call + " with " + a + ", " + b + ", " + c + ", " + d + " threw " + e, 1, 0);
        }
        boolean reads = call == 3 || call == 47 || call == 15;
        court.due("signs behind call " + call, reads ? x.count(6) : signs, reads ? 0 : signs);
        if (refused || (answer == -2 || answer == -3) && call != 10) {
            boolean tells = (call == 16 || call == 17) && answer == -2;
            if (!tells) court.due("call " + call + " with " + a + ", " + b + ", " + c + ", " + d + ": what it changed", state().equals(before), true);
        }
    }

    /** Of these an answer of NONE is none of what they can tell when they are not refused. */
    private static boolean isRefusal(int call) {
        return call != 3 && call != 47 && call != 15 && call != 44;
    }

    private long ask(int call, int a, int b, int c, int d) {
        switch (call) {
            case 0: return x.longest();
            case 1: return x.ways(a);
            case 2: return x.end(a) ? 1 : 0;
            case 3: return x.kitchen();
            case 4: return x.dish(a, b) * 0;
            case 5: return x.guest(a, b) * 0;
            case 6: return x.joy(a, b) * 0;
            case 7: return x.law(a, b);
            case 8: return x.store(a, b);
            case 9: return x.serve(a);
            case 10: return x.sheet(a, b, c, d);
            case 11: return x.back();
            case 12: return x.over();
            case 13: return x.can();
            case 14: return x.beside(a);
            case 15: return x.menu(a);
            case 16: return x.look(a);
            case 17: return x.joined(a, b);
            case 18: return x.swap(a, b, c) ? 1 : 0;
            case 19: return x.turn(a) ? 1 : 0;
            case 20: return x.falls(a, b, c);
            case 21: return x.between(a, b);
            case 22: return x.shortest(a, b);
            case 23: return x.bears(a);
            case 24: return x.parts();
            case 25: return x.rare();
            case 26: return x.round();
            case 27: return x.shut(a);
            case 28: return x.best(a, b);
            case 29: return x.fair(a, b);
            default: return askOn(call, a, b);
        }
    }

    private long askOn(int call, int a, int b) {
        switch (call) {
            case 30: return x.best(a & 7, b & 511);
            case 31: return x.fair(a & 7, b & 511);
            case 32: return x.cheap(a) < 0 ? -2 : 1;
            case 33: return x.dear(a);
            case 34: return x.game();
            case 35: return x.greedy();
            case 36: return x.mend(a, b);
            case 37: return x.mend(a & 1, b & 7);
            case 38: return x.fills(a);
            case 39: return x.sure(a, b);
            case 40: return x.hearths(a);
            case 41: return x.late(a, b);
            case 42: return x.poison(a, b);
            case 43: return x.eats(a, b);
            case 44: return x.count(a);
            case 45: return x.keep(a) ? 1 : 0;
            case 46: return x.again(a) ? 1 : 0;
            case 47: return x.rule();
            default: return (b & 1) == 0 ? x.made() : x.row(a) * 0;
        }
    }

    /** All that can be seen but THE TEXT; with the law and stores, which are put back. */
    private String state() {
        StringBuilder s = new StringBuilder();
        for (int what = 0; what < 8; what++) s.append(what == 6 ? 0 : x.count(what)).append(' ');
        for (int i = 0; i < x.count(5); i++) s.append(x.row(i)).append(',');
        for (int d = 0; d < x.count(0); d++) {
            for (int what = 0; what < 6; what++) s.append(x.dish(d, what)).append(' ');
            for (int g = 0; g < x.count(1); g++) s.append(x.joy(g, d)).append(' ');
        }
        for (int g = 0; g < x.count(1); g++) s.append(x.guest(g, 0)).append(' ').append(x.guest(g, 1)).append(' ');
        for (int what = 0; what < 3; what++) {
            int was = x.law(what, 1);
            x.law(what, was);
            s.append(was).append(' ');
        }
        for (int stuff = 0; stuff < 8; stuff++) {
            int was = x.store(stuff, 1);
            x.store(stuff, was);
            s.append(was).append(' ');
        }
        for (int i = 0; i < 3; i++) {
            for (int k = 0; k < 10; k++) s.append(x.sure(i, k)).append(' ');
        }
        return s.append(x.can()).toString();
    }
}
