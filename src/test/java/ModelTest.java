import java.util.NoSuchElementException;
import java.util.Random;

/** Long runs of calls drawn from a fixed seed, each answered by the class and by the model alike. */
public final class ModelTest {
    private static final int CALLS = 49;
    private final Random random;
    private final NextMustShare court = new NextMustShare();
    private final Model model = new Model();
    private final StringBuilder told = new StringBuilder();
    private int most = 7;
    private boolean rich;
    private static int wrong = 0;

    private ModelTest(long seed) {
        random = new Random(seed);
    }

    public static void main(String[] args) {
        int runs = args.length > 0 ? Integer.parseInt(args[0]) : 1200;
        int[] asked = new int[CALLS];
        for (int run = 0; run < runs && wrong < 5; run++) {
            new ModelTest(1000 + run).run(asked);
        }
        for (int call = 1; call < CALLS; call++) {
            if (asked[call] < 20) {
                wrong++;
                System.out.println("call " + call + " was asked only " + asked[call] + " times");
            }
        }
        System.out.println(wrong == 0 ? "class and model agree" : wrong + " faults");
        if (wrong != 0) System.exit(1);
    }

    private void run(int[] asked) {
        rich = random.nextInt(4) > 0;
        most = rich ? 4 + random.nextInt(4) : 2 + random.nextInt(6);
        if (rich) setUp();
        for (int k = 0; k < 120; k++) {
            int call = rich && random.nextInt(3) > 0 ? 15 + random.nextInt(CALLS - 15) : random.nextInt(CALLS - 1) + 1;
            if (random.nextInt(rich ? 12 : 3) == 0) call = 11 + random.nextInt(4);
            if (call >= 17 && call <= 20 && model.text.isEmpty() && random.nextInt(4) > 0) call = 16;
            asked[call]++;
            if (!ask(call)) {
                wrong++;
                return;
            }
        }
    }

    private void setUp() {
        while (model.dishes.size() < most) {
            write(kitchenText(random.nextInt(2) + 1, random.nextInt(2)));
            same("kitchen()", court.kitchen(), model.kitchen());
        }
        for (int what = 0; what < 3; what++) {
            int v = what == 0 ? 1 + random.nextInt(2) : what == 1 ? 3 + random.nextInt(7) : random.nextInt(3);
            if (random.nextInt(3) == 0) same("law(" + what + "," + v + ")", court.law(what, v), model.law(what, v));
        }
        if (random.nextBoolean()) {
            write(expression(4).replaceAll("[()]", ""));
            same("rule()", court.rule(), model.rule());
        }
        for (int i = 0; i < 3; i++) {
            write(lawfulMenuText());
            same("menu(" + i + ")", court.menu(i), model.menu(i));
        }
    }

    private void write(String text) {
        for (int p = 0; p < text.length(); p += 4) {
            int v = 0;
            for (int k = 0; k < 4; k++) v = v << 8 | (p + k < text.length() ? text.charAt(p + k) : random.nextInt(256));
            same("sign(" + v + ")", court.sign(v), model.sign(v));
        }
        int n = Math.min(text.length(), 80);
        same("end(" + n + ") \"" + text + "\"", court.end(n), model.end(n));
    }

    private String letters(int few) {
        StringBuilder s = new StringBuilder();
        for (char c = 'a'; c <= 'h'; c++) if (random.nextInt(few) == 0) s.append(c);
        return s.toString();
    }

    private String kitchenText(int dishes, int guests) {
        StringBuilder s = new StringBuilder();
        int few = 2 + random.nextInt(rich ? 2 : 3);
        for (int k = 0; k < dishes + guests; k++) {
            if (k > 0) s.append(';');
            if (random.nextInt(dishes + guests) < guests) {
                s.append('G').append(letters(3)).append('-').append(letters(6));
            } else {
                String stuffs = letters(few);
                s.append(stuffs.isEmpty() ? "" + (char) ('a' + random.nextInt(8)) : stuffs);
                s.append(random.nextInt(random.nextBoolean() ? 100 : 10));
                if (random.nextInt(3) == 0) s.append('H');
                if (random.nextInt(2) == 0) s.append('+').append(random.nextInt(10));
            }
        }
        return s.toString();
    }

    private String menuText() {
        StringBuilder s = new StringBuilder();
        int n = model.dishes.size();
        int length = random.nextInt(Math.min(10, n + 1) + 1);
        boolean holes = random.nextBoolean();
        for (int k = 0; k < length; k++) {
            char dish = (char) ('A' + (n == 0 ? 0 : random.nextInt(n)));
            boolean again = s.indexOf("" + dish) >= 0 && random.nextInt(10) > 0;
            s.append(holes && random.nextInt(3) == 0 || again ? holes ? '?' : (char) ('A' + k % Math.max(1, n)) : dish);
        }
        return s.toString();
    }

    /** A walk that can be served, which a random text seldom is. */
    private String lawfulMenuText() {
        StringBuilder s = new StringBuilder();
        while (model.back() >= 0) court.back();
        for (int k = 0; k < 10 && model.can() != 0 && random.nextInt(8) > 0; k++) {
            int can = model.can(), pick = random.nextInt(10);
            while ((can >> pick & 1) == 0) pick = (pick + 1) % 10;
            model.serve(pick);
            s.append((char) ('A' + pick));
        }
        while (model.back() >= 0) s.append("");
        for (int p = 0; p < s.length(); p++) {
            if (random.nextInt(5) == 0) s.setCharAt(p, rich && random.nextInt(4) > 0 ? '?' : (char) ('A' + random.nextInt(model.dishes.size())));
        }
        return s.toString();
    }

    private String expression(int depth) {
        switch (depth <= 0 ? random.nextInt(2) : random.nextInt(6)) {
            case 0: return "" + "lbnchogd".charAt(random.nextInt(8));
            case 1: return "" + random.nextInt(random.nextBoolean() ? 1000 : 10);
            case 2: return "-" + expression(depth - 1);
            case 3: return "(" + expression(depth - 1) + ")";
            default: return expression(depth - 1) + "<>=+-*/+-*/".charAt(random.nextInt(11)) + expression(depth - 1);
        }
    }

    private String spoilt(String text, String signs) {
        StringBuilder s = new StringBuilder(text);
        while (random.nextInt(3) == 0) {
            int p = random.nextInt(s.length() + 1);
            char c = random.nextInt(8) == 0 ? (char) random.nextInt(256) : signs.charAt(random.nextInt(signs.length()));
            if (p == s.length() || random.nextBoolean()) s.insert(p, c);
            else if (random.nextBoolean()) s.deleteCharAt(p);
            else s.setCharAt(p, c);
        }
        return s.substring(0, Math.min(80, s.length()));
    }

    private int some(int bound) {
        int[] strange = {-1, -2, bound, bound + 1, Integer.MIN_VALUE, Integer.MAX_VALUE, 31, 32, 33, -32, 64, 256};
        return random.nextInt(12) == 0 ? strange[random.nextInt(strange.length)] : random.nextInt(bound);
    }

    private boolean same(String call, Object mine, Object due) {
        told.append(call).append(" -> ").append(mine).append('\n');
        boolean fine = mine.equals(due) || mine instanceof Number && due instanceof Number
                && ((Number) mine).longValue() == ((Number) due).longValue();
        boolean rowFine = court.count(5) == model.count(5);
        for (int i = 0; rowFine && i < model.count(5); i++) rowFine = court.row(i) == model.row(i);
        if (fine && rowFine) return true;
        System.out.println(told);
        System.out.println(call + " answered " + mine + ", due is " + due + ", the row due " + model.row);
        for (int i = 0; i < court.count(5); i++) System.out.print(" " + court.row(i));
        System.out.println(" is the row, served " + model.banquet + ", menus " + model.menus);
        return false;
    }

    private interface Asked {
        int answer();
    }

    private static Object orThrown(Asked asked) {
        try {
            return asked.answer();
        } catch (NoSuchElementException e) {
            return "NoSuchElementException";
        }
    }

    private boolean ask(int call) {
        int n = Math.max(1, model.dishes.size()), g = Math.max(1, model.guests.size());
        int a, b, c, d;
        switch (call) {
            case 1: a = random.nextInt(); return same("sign(" + a + ")", court.sign(a), model.sign(a));
            case 2: a = some(Math.max(1, model.text.length())); return same("end(" + a + ")", court.end(a), model.end(a));
            case 3:
                if (random.nextInt(6) > 0) clearText();
                if (model.text.isEmpty()) {
                    int dishes = most - model.dishes.size() > 0 ? 1 + random.nextInt(most - model.dishes.size()) : 0;
                    String t = kitchenText(random.nextInt(3) == 0 ? dishes : 0, random.nextInt(3));
                    write(spoilt(t, "abcdefgh;G-H+0123456789"));
                    if (tooMany()) clearText();
                }
                return same("kitchen()", court.kitchen(), model.kitchen());
            case 4:
                if (random.nextInt(6) > 0) clearText();
                if (model.text.isEmpty()) write(spoilt(expression(random.nextInt(6)), "lbnchogd0123456789()<>=+-*/"));
                return same("rule()", court.rule(), model.rule());
            case 5: a = some(n); b = some(6);
                return same("dish(" + a + "," + b + ")", orThrown(() -> court.dish(a, b)), orThrown(() -> model.dish(a, b)));
            case 6: a = some(g); b = some(2);
                return same("guest(" + a + "," + b + ")", orThrown(() -> court.guest(a, b)), orThrown(() -> model.guest(a, b)));
            case 7: a = some(g); b = some(n);
                return same("joy(" + a + "," + b + ")", orThrown(() -> court.joy(a, b)), orThrown(() -> model.joy(a, b)));
            case 8: a = some(3); b = random.nextInt(3) > 0 && a == 0 ? 1 + random.nextInt(2) : some(10);
                return same("law(" + a + "," + b + ")", court.law(a, b), model.law(a, b));
            case 9: a = some(8); b = random.nextInt(4) > 0 ? some(100) : some(7);
                return same("store(" + a + "," + b + ")", court.store(a, b), model.store(a, b));
            case 10: a = some(4); b = some(11); c = random.nextInt(3) > 0 ? some(100) : random.nextInt();
                d = random.nextInt(3) > 0 ? some(100) : random.nextInt();
                return same("sheet(" + a + "," + b + "," + c + "," + d + ")", court.sheet(a, b, c, d), model.sheet(a, b, c, d));
            case 11: case 12: a = some(n);
                if (model.banquet.size() > 2 && random.nextInt(3) > 0) return same("back()", court.back(), model.back());
                int can = model.can();
                if (random.nextInt(4) > 0 && can != 0) {
                    int pick = random.nextInt(10);
                    while ((can >> pick & 1) == 0) pick = (pick + 1) % 10;
                    return same("serve(" + pick + ")", court.serve(pick), model.serve(pick));
                }
                return same("serve(" + a + ")", court.serve(a), model.serve(a));
            case 13: return same("back()", court.back(), model.back());
            case 14:
                if (rich || random.nextInt(4) > 0) return same("back()", court.back(), model.back());
                return same("over()", court.over(), model.over());
            case 15: return same("can()", court.can(), model.can());
            case 16:
                a = some(3);
                if (random.nextInt(6) > 0) clearText();
                if (model.text.isEmpty()) {
                    String t = random.nextInt(4) > 0 ? lawfulMenuText() : menuText();
                    write(rich ? t : spoilt(t, "ABCDEFGHIJ?"));
                }
                return same("menu(" + a + ")", court.menu(a), model.menu(a));
            case 17: a = some(3); return same("look(" + a + ")", court.look(a), model.look(a));
            case 18: a = some(3); b = some(5); c = some(5);
                return same("swap(" + a + "," + b + "," + c + ")", court.swap(a, b, c), model.swap(a, b, c));
            case 19: a = some(3); return same("turn(" + a + ")", court.turn(a), model.turn(a));
            case 20: a = some(3); b = some(3);
                return same("joined(" + a + "," + b + ")", court.joined(a, b), model.joined(a, b));
            case 21: a = random.nextInt(9); b = random.nextInt(10); c = some(3);
                return same("falls(" + a + "," + b + "," + c + ")", court.falls(a, b, c), model.falls(a, b, c));
            default: return askOn(call, n, g);
        }
    }

    private void clearText() {
        same("end(0)", court.end(0), model.end(0));
    }

    private boolean tooMany() {
        int lines = 1;
        for (char c : model.text.toCharArray()) lines += c == ';' ? 1 : 0;
        return model.dishes.size() + lines > most + 6;
    }

    private boolean askOn(int call, int n, int g) {
        int a, b;
        switch (call) {
            case 22: return same("longest()", court.longest(), model.longest());
            case 23: a = some(11); return same("ways(" + a + ")", court.ways(a), model.ways(a));
            case 24: a = some(n); b = some(n);
                return same("between(" + a + "," + b + ")", court.between(a, b), model.between(a, b));
            case 25: a = some(n); b = some(n);
                return same("shortest(" + a + "," + b + ")", court.shortest(a, b), model.shortest(a, b));
            case 26: a = some(g); return same("bears(" + a + ")", court.bears(a), model.bears(a));
            case 27: a = some(n); return same("beside(" + a + ")", court.beside(a), model.beside(a));
            case 28: return same("parts()", court.parts(), model.parts());
            case 29: return same("rare()", court.rare(), model.rare());
            case 30: return same("round()", court.round(), model.round());
            case 31: a = some(10); return same("shut(" + a + ")", court.shut(a), model.shut(a));
            case 32: a = random.nextInt(3) > 0 ? some(4) : some(11); b = random.nextBoolean() ? some(1000) : some(150);
                return same("best(" + a + "," + b + ")", court.best(a, b), model.best(a, b));
            case 33: a = random.nextInt(3) > 0 ? some(4) : some(11); b = random.nextBoolean() ? some(1000) : some(150);
                return same("fair(" + a + "," + b + ")", court.fair(a, b), model.fair(a, b));
            case 34: a = random.nextBoolean() ? some(4) : some(11); return same("cheap(" + a + ")", court.cheap(a), model.cheap(a));
            case 35: a = random.nextBoolean() ? some(4) : some(11); return same("dear(" + a + ")", court.dear(a), model.dear(a));
            case 36: return same("game()", court.game(), model.game());
            case 37: return same("greedy()", court.greedy(), model.greedy());
            case 38: a = some(3); b = random.nextBoolean() ? -1 : some(8);
                return same("mend(" + a + "," + b + ")", court.mend(a, b), model.mend(a, b));
            case 39: a = some(3); return same("fills(" + a + ")", court.fills(a), model.fills(a));
            case 40: a = some(3); b = some(10);
                return same("sure(" + a + "," + b + ")", court.sure(a, b), model.sure(a, b));
            case 41: a = some(3); return same("hearths(" + a + ")", court.hearths(a), model.hearths(a));
            case 42: a = some(3); b = some(10); return same("late(" + a + "," + b + ")", court.late(a, b), model.late(a, b));
            case 43: a = some(3); b = some(1 << g); return same("poison(" + a + "," + b + ")", court.poison(a, b), model.poison(a, b));
            case 44: a = some(3); b = some(g); return same("eats(" + a + "," + b + ")", court.eats(a, b), model.eats(a, b));
            case 45:
                if (random.nextInt(3) > 0 || model.dishes.size() > 5) return true;
                return same("made()", court.made(), model.made());
            case 46: a = some(2); return same("keep(" + a + ")", court.keep(a), model.keep(a));
            case 47: a = some(2); return same("again(" + a + ")", court.again(a), model.again(a));
            default: a = some(8); return same("count(" + a + ")", court.count(a), model.count(a));
        }
    }
}
