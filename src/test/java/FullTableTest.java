import java.util.Random;

/** Kitchens of eight to ten dishes, so scarce that the model can still write out every row. */
public final class FullTableTest {
    private static final int MOST_ROWS = 12000;
    private final Random random;
    private final Court court;
    private final Model model = new Model();
    private static int longest = 0;
    private static int kitchens = 0;

    private FullTableTest(long seed) {
        random = new Random(seed);
        court = new Court("kitchen " + seed);
    }

    public static void main(String[] args) {
        int runs = args.length > 0 ? Integer.parseInt(args[0]) : 250;
        for (int run = 0; run < runs && Court.wrong == 0; run++) new FullTableTest(run).run();
        if (longest < 9 || kitchens < runs / 5) {
            Court.wrong++;
            System.out.println("too scarce: rows of " + longest + ", kitchens " + kitchens);
        }
        Court.endTests("FullTableTest");
    }

    private void run() {
        int dishes = 8 + random.nextInt(3);
        while (model.dishes.size() < dishes) both(dish());
        both("Gab-h;Gcd-;Gef-g;Gh-ab");
        law(0, 1 + random.nextInt(3));
        law(1, 3 + random.nextInt(7));
        law(2, random.nextInt(3));
        if (model.rowsUpTo(MOST_ROWS) >= MOST_ROWS) return;
        kitchens++;
        court.due("longest()", court.x.longest(), model.longest());
        sameRow("longest()");
        longest = Math.max(longest, model.row.size());
        if (model.row.size() > 0) serveFirst();
        ask();
        goingOn();
        menus();
    }

    private void serveFirst() {
        int first = model.row(0);
        if (random.nextBoolean()) court.due("serve", court.x.serve(first), model.serve(first));
    }

    private String dish() {
        StringBuilder s = new StringBuilder();
        for (char c = 'a'; c <= 'h'; c++) if (random.nextInt(3) == 0) s.append(c);
        if (s.length() == 0) s.append('d');
        s.append(random.nextInt(40));
        if (random.nextInt(2) == 0) s.append('H');
        return s.append('+').append(random.nextInt(10)).toString();
    }

    private void both(String kitchen) {
        write(kitchen);
        court.due("kitchen of " + kitchen, court.x.kitchen(), model.kitchen());
    }

    private void write(String text) {
        court.write(text);
        model.text = text;
    }

    private void law(int what, int v) {
        court.due("law(" + what + ", " + v + ")", court.x.law(what, v), model.law(what, v));
    }

    private void sameRow(String call) {
        int[] due = new int[model.row.size()];
        for (int i = 0; i < due.length; i++) due[i] = model.row.get(i);
        court.row(call, due);
    }

    private void same(String call, long got, long due) {
        court.due(call, got, due);
        sameRow(call);
    }

    private void ask() {
        int a = random.nextInt(model.dishes.size()), b = random.nextInt(model.dishes.size());
        same("between(" + a + ", " + b + ")", court.x.between(a, b), model.between(a, b));
        same("shortest(" + a + ", " + b + ")", court.x.shortest(a, b), model.shortest(a, b));
        same("round()", court.x.round(), model.round());
        same("parts()", court.x.parts(), model.parts());
        for (int n = 0; n < 10; n++) same("shut(" + n + ")", court.x.shut(n), model.shut(n));
    }

    private void goingOn() {
        same("longest()", court.x.longest(), model.longest());
        same("game()", court.x.game(), model.game());
        same("greedy()", court.x.greedy(), model.greedy());
        for (int g = 0; g < 4; g++) same("bears(" + g + ")", court.x.bears(g), model.bears(g));
        for (int n = 0; n <= 10; n++) {
            int purse = random.nextInt(400);
            same("ways(" + n + ")", court.x.ways(n), model.ways(n));
            same("best(" + n + ", " + purse + ")", court.x.best(n, purse), model.best(n, purse));
            same("fair(" + n + ", " + purse + ")", court.x.fair(n, purse), model.fair(n, purse));
            same("cheap(" + n + ")", court.x.cheap(n), model.cheap(n));
            same("dear(" + n + ")", court.x.dear(n), model.dear(n));
        }
    }

    private void menus() {
        for (int k = 0; k < 4; k++) {
            int i = random.nextInt(3);
            String menu = menuText();
            write(menu);
            same("menu(" + i + ") of " + menu, court.x.menu(i), model.menu(i));
            same("fills(" + i + ")", court.x.fills(i), model.fills(i));
            for (int p = 0; p < 10; p++) same("sure(" + i + ", " + p + ")", court.x.sure(i, p), model.sure(i, p));
            int stuff = random.nextInt(9) - 1;
            same("mend(" + i + ", " + stuff + ")", court.x.mend(i, stuff), model.mend(i, stuff));
            same("look(" + i + ")", court.x.look(i), model.look(i));
            same("hearths(" + i + ")", court.x.hearths(i), model.hearths(i));
            same("late(" + i + ", 3)", court.x.late(i, 3), model.late(i, 3));
        }
    }

    private String menuText() {
        StringBuilder s = new StringBuilder();
        boolean holes = random.nextBoolean();
        int size = random.nextInt(Math.max(1, longest)) + 1;
        for (int p = 0; p < size; p++) {
            s.append(holes && random.nextInt(4) > 0 ? '?' : (char) ('A' + random.nextInt(model.dishes.size())));
        }
        return s.toString();
    }
}
