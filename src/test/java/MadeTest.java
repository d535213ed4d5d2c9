import java.util.Random;

/** A dish made to join all: kitchens that fall in few parts, under every kind of law. */
public final class MadeTest {
    public static void main(String[] args) {
        int[] found = new int[12];
        int runs = args.length > 0 ? Integer.parseInt(args[0]) : 3000;
        for (int run = 0; run < runs && Court.wrong == 0; run++) {
            int answer = ask(new Random(run), run);
            found[answer + 2]++;
        }
        for (int n : new int[] {-2, 0, 2, 3, 4}) {
            Court.asked++;
            if (found[n + 2] == 0) {
                Court.wrong++;
                System.out.println("never answered " + n);
            }
        }
        Court.endTests("MadeTest");
    }

    private static int ask(Random random, int run) {
        StringBuilder kitchen = new StringBuilder();
        int dishes = 2 + random.nextInt(4);
        int cut = 2 + random.nextInt(5);
        int over = random.nextInt(3);
        for (int d = 0; d < dishes; d++) {
            boolean low = random.nextBoolean();
            StringBuilder s = new StringBuilder();
            for (int c = low ? 0 : Math.max(0, cut - over); c < (low ? Math.min(8, cut + over) : 8); c++) if (random.nextInt(3) > 0) s.append((char) ('a' + c));
            if (s.length() == 0) s.append(low ? 'a' : 'h');
            kitchen.append(d == 0 ? "" : ";").append(s).append(1).append(random.nextInt(3) == 0 ? "H" : "");
        }
        Court court = new Court("made " + run + " of " + kitchen, kitchen.toString());
        Model model = new Model();
        model.text = kitchen.toString();
        model.kitchen();
        int[] law = {1 + Math.min(2, random.nextInt(2 + over)), random.nextBoolean() ? 9 : 2 + random.nextInt(4), random.nextInt(3)};
        for (int what = 0; what < 3; what++) court.due("law", court.x.law(what, law[what]), model.law(what, law[what]));
        for (int k = 0; k < 3; k++) {
            int stuff = random.nextInt(8), v = random.nextInt(6);
            court.due("store", court.x.store(stuff, v), model.store(stuff, v));
        }
        int due = model.made();
        court.due("made() by " + law[0] + " " + law[1] + " " + law[2], court.x.made(), due);
        if (due >= 0) court.row("made()", model.row.get(0));
        return due;
    }
}
