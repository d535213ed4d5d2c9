import java.util.ArrayList;
import java.util.Arrays;
import java.util.Comparator;
import java.util.List;
import java.util.NoSuchElementException;
import java.util.function.Function;
import java.util.function.Predicate;
import java.util.function.ToIntFunction;
import java.util.regex.Matcher;
import java.util.regex.Pattern;

/**
 * The document told once more, as plainly as can be: every row there could be is written out and looked
 * at. It is slow, and shares nothing with the class but the words of the document.
 */
final class Model {
    static final class Dish {
        int stuffs, cost, hours;
        boolean hot;
    }

    static final class Guest {
        int loves, bars;
    }

    static final class Kept {
        List<Integer> banquet;
        int[] stores, law;
        int dishes;
    }

    String text = "";
    final List<Dish> dishes = new ArrayList<>();
    final List<Guest> guests = new ArrayList<>();
    int[] law = {1, 9, 0};
    int[] stores = {99, 99, 99, 99, 99, 99, 99, 99};
    String rule = "";
    List<Integer> banquet = new ArrayList<>();
    final List<List<Integer>> menus = new ArrayList<>(List.of(List.of(), List.of(), List.of()));
    List<Integer> row = new ArrayList<>();
    final Kept[] kept = new Kept[2];

    // ---- the kitchen

    int sign(int v) {
        if (text.length() + 4 > 80) return -1;
        for (int shift = 24; shift >= 0; shift -= 8) text += (char) (v >>> shift & 255);
        return text.length();
    }

    boolean end(int n) {
        if (n < 0 || n > text.length()) return false;
        text = text.substring(0, n);
        return true;
    }

    private static final String RISING = "a?b?c?d?e?f?g?h?";
    private static final String DISH = "(?:a" + tail(1) + "|b" + tail(2) + "|c" + tail(3) + "|d" + tail(4)
            + "|e" + tail(5) + "|f" + tail(6) + "|g" + tail(7) + "|h)[0-9][0-9]?H?(?:\\+[0-9])?";
    private static final String GUEST = "G" + RISING + "-" + RISING;
    private static final Pattern KITCHEN =
            Pattern.compile("(?:" + DISH + "|" + GUEST + ")(?:;(?:" + DISH + "|" + GUEST + "))*");

    private static String tail(int from) {
        return RISING.substring(2 * from);
    }

    /** The first sign behind which the text can't become one of the pattern; -1 if the text is one. */
    private static int fault(Pattern pattern, String whole, int most, Predicate<String> more) {
        String text = whole.substring(0, Math.min(most, whole.length()));
        for (int p = 0; p < text.length(); p++) {
            Matcher m = pattern.matcher(text.substring(0, p + 1));
            if (!(m.matches() || m.hitEnd()) || !more.test(text.substring(0, p + 1))) return p;
        }
        if (whole.length() > most) return most;
        return pattern.matcher(text).matches() ? -1 : text.length();
    }

    private boolean hasRoom(String part) {
        int d = dishes.size(), g = guests.size();
        for (String line : part.split(";", -1)) {
            if (line.startsWith("G")) g++;
            else if (!line.isEmpty()) d++;
        }
        return d <= 10 && g <= 6;
    }

    int kitchen() {
        String told = text;
        text = "";
        if (told.isEmpty()) return 0;
        int p = fault(KITCHEN, told, 76, this::hasRoom);
        if (p >= 0) return -1 - p;
        String[] lines = told.split(";");
        for (String line : lines) {
            if (line.startsWith("G")) {
                Guest g = new Guest();
                g.loves = bits(line.substring(1, line.indexOf('-')));
                g.bars = bits(line.substring(line.indexOf('-')));
                guests.add(g);
            } else {
                Dish d = new Dish();
                d.stuffs = bits(line);
                d.hot = line.contains("H");
                int plus = line.indexOf('+');
                d.hours = plus < 0 ? 0 : line.charAt(plus + 1) - '0';
                d.cost = Integer.parseInt((plus < 0 ? line : line.substring(0, plus)).replaceAll("[^0-9]", ""));
                dishes.add(d);
            }
        }
        return lines.length;
    }

    private static int bits(String letters) {
        int bits = 0;
        for (char c : letters.toCharArray()) if (c >= 'a' && c <= 'h') bits |= 1 << c - 'a';
        return bits;
    }

    private static final Pattern RULE = Pattern.compile(expression(0));

    private static String expression(int depth) {
        String inner = depth < 4 ? "|\\(" + expression(depth + 1) + "\\)" : "";
        String factor = "-*(?:[0-9]{1,3}|[lbnchogd]" + inner + ")";
        String sum = factor + "(?:[-+*/]" + factor + ")*";
        return "(?:" + sum + ")(?:[<>=]" + sum + ")?";
    }

    int rule() {
        String told = text;
        text = "";
        int p = told.isEmpty() ? -1 : fault(RULE, told, 40, t -> true);
        if (p >= 0) return -1 - p;
        rule = told;
        return 0;
    }

    int dish(int dish, int what) {
        if (!isDish(dish) || what < 0 || what > 5) throw new NoSuchElementException();
        Dish d = dishes.get(dish);
        int joy = 0, hungry = 0;
        for (int g = 0; g < guests.size(); g++) {
            joy += joy(g, dish);
            hungry += hungry(g, dish) ? 1 : 0;
        }
        return new int[] {d.stuffs, d.cost, d.hot ? 1 : 0, d.hours, joy, hungry}[what];
    }

    int guest(int guest, int what) {
        if (!isGuest(guest) || what < 0 || what > 1) throw new NoSuchElementException();
        return what == 0 ? guests.get(guest).loves : guests.get(guest).bars;
    }

    int joy(int guest, int dish) {
        if (!isGuest(guest) || !isDish(dish)) throw new NoSuchElementException();
        Guest g = guests.get(guest);
        Dish d = dishes.get(dish);
        if (rule.isEmpty()) return Integer.bitCount(g.loves & d.stuffs);
        int v = worth(rule, name -> {
            switch (name) {
                case 'l': return Integer.bitCount(g.loves & d.stuffs);
                case 'b': return Integer.bitCount(g.bars & d.stuffs);
                case 'n': return Integer.bitCount(d.stuffs);
                case 'c': return d.cost;
                case 'h': return d.hot ? 1 : 0;
                case 'o': return d.hours;
                case 'g': return guest;
                default: return dish;
            }
        });
        return Math.max(-999, Math.min(999, v));
    }

    /** Splits at the operator that binds least, the last of them; a - behind an operator is none. */
    static int worth(String e, Function<Character, Integer> named) {
        int at = split(e, "<>=");
        if (at < 0) at = split(e, "+-");
        if (at < 0) at = split(e, "*/");
        if (at >= 0) {
            int left = worth(e.substring(0, at), named), right = worth(e.substring(at + 1), named);
            switch (e.charAt(at)) {
                case '<': return left < right ? 1 : 0;
                case '>': return left > right ? 1 : 0;
                case '=': return left == right ? 1 : 0;
                case '+': return left + right;
                case '-': return left - right;
                case '*': return left * right;
                default: return right == 0 ? 0 : left / right;
            }
        }
        if (e.startsWith("-")) return -worth(e.substring(1), named);
        if (e.startsWith("(")) return worth(e.substring(1, e.length() - 1), named);
        return Character.isDigit(e.charAt(0)) ? Integer.parseInt(e) : named.apply(e.charAt(0));
    }

    private static int split(String e, String operators) {
        int depth = 0;
        for (int p = e.length() - 1; p > 0; p--) {
            char c = e.charAt(p);
            depth += c == ')' ? 1 : c == '(' ? -1 : 0;
            if (depth == 0 && operators.indexOf(c) >= 0 && "<>=+-*/(".indexOf(e.charAt(p - 1)) < 0) return p;
        }
        return -1;
    }

    int law(int what, int v) {
        if (what < 0 || what > 2 || !canBe(what, v)) return -1;
        int was = law[what];
        law[what] = v;
        return was;
    }

    private static boolean canBe(int what, int v) {
        return what == 0 ? v >= 1 && v <= 8 : what == 1 ? v >= 1 && v <= 9 : v >= 0 && v <= 2;
    }

    int store(int stuff, int v) {
        if (stuff < 0 || stuff > 7 || v < 0 || v > 99) return -1;
        int was = stores[stuff];
        stores[stuff] = v;
        return was;
    }

    int sheet(int kind, int n, int f, int step) {
        if (kind < 0 || kind > 3 || n > 10) return -1;
        if (kind != 3 && n < 0) return -2;
        int sum = 0;
        for (int d = 0; d < dishes.size(); d++) {
            int v = f;
            for (int k = 0; k < d; k++) v += step;
            if (kind == 0) v = (byte) v;
            if (kind == 1) v = (short) v;
            v = kind == 3 || d >= n ? 0 : v < 0 ? 0 : v > 99 ? 99 : v;
            dishes.get(d).cost = v;
            sum += v;
        }
        return kind == 3 ? -3 : sum;
    }

    // ---- the banquet

    boolean isDish(int d) {
        return d >= 0 && d < dishes.size();
    }

    boolean isGuest(int g) {
        return g >= 0 && g < guests.size();
    }

    boolean hungry(int g, int d) {
        return (guests.get(g).bars & dishes.get(d).stuffs) != 0;
    }

    private boolean share(Dish a, Dish b, int[] law) {
        return Integer.bitCount(a.stuffs & b.stuffs) >= law[0];
    }

    private int why(List<Dish> ahead, Dish next, int[] law, int[] stores) {
        if (ahead.contains(next)) return -2;
        Dish last = ahead.isEmpty() ? null : ahead.get(ahead.size() - 1);
        if (last != null && !share(last, next, law)) return -3;
        if (law[2] == 1 && !next.hot) for (Dish d : ahead) if (d.hot) return -4;
        if (law[2] == 2 && last != null && last.hot == next.hot) return -4;
        int[] uses = new int[8];
        for (int s = 0; s < 8; s++) {
            uses[s] = next.stuffs >> s & 1;
            for (Dish d : ahead) uses[s] += d.stuffs >> s & 1;
        }
        for (int s = 0; s < 8; s++) if (uses[s] > law[1]) return -5;
        for (int s = 0; s < 8; s++) if (uses[s] > stores[s]) return -6;
        return 0;
    }

    private List<Dish> dishesOf(List<Integer> row) {
        List<Dish> list = new ArrayList<>();
        for (int d : row) list.add(dishes.get(d));
        return list;
    }

    int serve(int dish) {
        if (!isDish(dish)) return -1;
        int why = why(dishesOf(banquet), dishes.get(dish), law, stores);
        if (why != 0) return why;
        banquet.add(dish);
        return banquet.size();
    }

    int back() {
        return banquet.isEmpty() ? -1 : banquet.remove(banquet.size() - 1);
    }

    int over() {
        int had = banquet.size();
        for (Dish d : dishesOf(banquet)) {
            for (int s = 0; s < 8; s++) stores[s] = Math.max(0, stores[s] - (d.stuffs >> s & 1));
        }
        banquet.clear();
        return had;
    }

    int can() {
        int bits = 0;
        for (int d = 0; d < dishes.size(); d++) {
            if (why(dishesOf(banquet), dishes.get(d), law, stores) == 0) bits |= 1 << d;
        }
        return bits;
    }

    int menu(int i) {
        String told = text;
        text = "";
        if (i < 0 || i > 2) return -100;
        String letters = "ABCDEFGHIJ".substring(0, dishes.size()) + "?";
        List<Integer> places = new ArrayList<>();
        for (int p = 0; p < told.length(); p++) {
            int at = letters.indexOf(told.charAt(p));
            if (p == 10 || at < 0) return -1 - p;
            places.add(at == dishes.size() ? -1 : at);
        }
        menus.set(i, places);
        return places.size();
    }

    private boolean laid(int i) {
        return i >= 0 && i < 3 && !menus.get(i).isEmpty();
    }

    private boolean whole(int i) {
        return laid(i) && !menus.get(i).contains(-1);
    }

    private List<Integer> set(int... numbers) {
        row = new ArrayList<>();
        for (int v : numbers) row.add(v);
        return row;
    }

    /** Place and why. */
    private int[] fault(List<Integer> menu, int[] law) {
        List<Dish> ahead = new ArrayList<>();
        for (int p = 0; p < menu.size(); p++) {
            if (menu.get(p) < 0) return new int[] {p, -1};
            Dish d = dishes.get(menu.get(p));
            int why = why(ahead, d, law, stores);
            if (why != 0) return new int[] {p, why};
            ahead.add(d);
        }
        return new int[] {-2, 0};
    }

    int look(int i) {
        if (!laid(i)) return -3;
        List<Integer> menu = menus.get(i);
        int[] fault = fault(menu, law);
        int cost = 0, hungry = 0;
        for (int p = 0; p < (fault[0] < 0 ? menu.size() : fault[0]); p++) {
            cost += dishes.get(menu.get(p)).cost;
            for (int g = 0; g < guests.size(); g++) if (hungry(g, menu.get(p))) hungry |= 1 << g;
        }
        set(fault[1], cost, hungry);
        return fault[0];
    }

    boolean swap(int i, int j, int k) {
        if (i < 0 || i > 2 || j == k || j < 0 || k < 0) return false;
        List<Integer> menu = new ArrayList<>(menus.get(i));
        if (j >= menu.size() || k >= menu.size()) return false;
        menu.set(k, menu.set(j, menu.get(k)));
        menus.set(i, menu);
        return true;
    }

    boolean turn(int i) {
        if (!laid(i)) return false;
        List<Integer> turned = new ArrayList<>();
        for (int d : menus.get(i)) turned.add(0, d);
        menus.set(i, turned);
        return true;
    }

    int joined(int i, int j) {
        if (!whole(i) || !whole(j)) return -3;
        List<Integer> both = new ArrayList<>(menus.get(i));
        both.addAll(menus.get(j));
        int[] fault = fault(both, law);
        set(fault[1]);
        return fault[0];
    }

    int falls(int share, int times, int heat) {
        if (!canBe(0, share) || !canBe(1, times) || !canBe(2, heat)) return -1;
        int bits = 0;
        for (int i = 0; i < 3; i++) {
            if (whole(i) && fault(menus.get(i), law)[0] == -2
                    && fault(menus.get(i), new int[] {share, times, heat})[0] != -2) bits |= 1 << i;
        }
        return bits;
    }

    // ---- rows written out

    /** All rows that can be served on, in rising order, each ahead of those that go on from it. */
    private List<List<Integer>> rows(List<Integer> from, int[] stores) {
        List<List<Integer>> rows = new ArrayList<>();
        collect(dishesOf(from), new ArrayList<>(), stores, rows);
        return rows;
    }

    private void collect(List<Dish> ahead, List<Integer> row, int[] stores, List<List<Integer>> rows) {
        rows.add(new ArrayList<>(row));
        for (int d = 0; d < dishes.size(); d++) {
            Dish dish = dishes.get(d);
            if (why(ahead, dish, law, stores) == 0) {
                ahead.add(dish);
                row.add(d);
                collect(ahead, row, stores, rows);
                row.remove(row.size() - 1);
                ahead.remove(ahead.size() - 1);
            }
        }
    }

    private List<List<Integer>> further() {
        return rows(banquet, stores);
    }

    private List<List<Integer>> anew() {
        return rows(List.of(), stores);
    }

    private List<Integer> greatest(List<List<Integer>> rows, Predicate<List<Integer>> fine,
            ToIntFunction<List<Integer>> worth) {
        List<Integer> found = null;
        for (List<Integer> row : rows) {
            if (fine.test(row) && (found == null || worth.applyAsInt(row) > worth.applyAsInt(found)
                    || worth.applyAsInt(row) == worth.applyAsInt(found) && compare(row, found) < 0)) found = row;
        }
        return found;
    }

    private static int compare(List<Integer> a, List<Integer> b) {
        return Arrays.compare(a.stream().mapToInt(x -> x).toArray(), b.stream().mapToInt(x -> x).toArray());
    }

    int longest() {
        row = greatest(further(), r -> true, List::size);
        return row.size();
    }

    long ways(int n) {
        if (n < 0 || n > 10) return -1;
        return further().stream().filter(r -> r.size() == n).count();
    }

    private int betweenBy(int first, int last, int sense) {
        if (!isDish(first) || !isDish(last)) return -1;
        List<Integer> found = greatest(anew(),
                r -> !r.isEmpty() && r.get(0) == first && r.get(r.size() - 1) == last, r -> sense * r.size());
        if (found == null) return -2;
        row = found;
        return row.size();
    }

    int between(int first, int last) {
        return betweenBy(first, last, 1);
    }

    int shortest(int first, int last) {
        return betweenBy(first, last, -1);
    }

    int bears(int guest) {
        if (!isGuest(guest)) return -1;
        row = greatest(further(), r -> r.stream().noneMatch(d -> hungry(guest, d)), List::size);
        return row.size();
    }

    int beside(int dish) {
        if (!isDish(dish)) return -1;
        int bits = 0;
        for (int d = 0; d < dishes.size(); d++) {
            if (d != dish && share(dishes.get(d), dishes.get(dish), law)) bits |= 1 << d;
        }
        return bits;
    }

    int parts() {
        int[] part = new int[dishes.size()];
        for (int d = 0; d < part.length; d++) part[d] = d;
        for (int a = 0; a < part.length; a++) {
            for (int b = 0; b < part.length; b++) {
                if ((beside(a) >> b & 1) == 1) {
                    int low = Math.min(part[a], part[b]), high = Math.max(part[a], part[b]);
                    for (int d = 0; d < part.length; d++) if (part[d] == high) part[d] = low;
                }
            }
        }
        row = new ArrayList<>();
        for (int low = 0; low < part.length; low++) {
            int bits = 0;
            for (int d = 0; d < part.length; d++) if (part[d] == low) bits |= 1 << d;
            if (bits != 0) row.add(bits);
        }
        return row.size();
    }

    int rare() {
        int found = -2, fewest = 99;
        for (int s = 7; s >= 0; s--) {
            int bits = 0;
            for (int d = 0; d < dishes.size(); d++) bits |= (dishes.get(d).stuffs >> s & 1) << d;
            if (bits != 0 && Integer.bitCount(bits) <= fewest) {
                fewest = Integer.bitCount(bits);
                found = s;
                set(bits);
            }
        }
        return found;
    }

    int round() {
        List<Integer> found = greatest(anew(),
                r -> r.size() > 2 && share(dishes.get(r.get(0)), dishes.get(r.get(r.size() - 1)), law), List::size);
        if (found == null) return -2;
        row = found;
        return row.size();
    }

    int shut(int n) {
        if (n < 0 || n > 9) return -1;
        int bits = (1 << dishes.size()) - 1;
        for (List<Integer> r : anew()) if (r.size() > n) for (int d : r) bits &= ~(1 << d);
        return bits;
    }

    // ---- joy

    private int joyOf(int guest, List<Integer> row) {
        int sum = 0;
        for (int d : row) sum += joy(guest, d);
        return sum;
    }

    private int costOf(List<Integer> row) {
        int sum = 0;
        for (int d : row) sum += dishes.get(d).cost;
        return sum;
    }

    private int tellJoy(int n, int purse, ToIntFunction<List<Integer>> joy) {
        List<Integer> found = greatest(further(), r -> r.size() == n && costOf(r) <= purse, joy);
        if (found == null) return -2;
        set(joy.applyAsInt(found)).addAll(found);
        return 1;
    }

    int best(int n, int purse) {
        if (n < 0 || n > 10 || purse < 0 || purse > 999) return -1;
        return tellJoy(n, purse, r -> {
            int sum = 0;
            for (int g = 0; g < guests.size(); g++) sum += joyOf(g, r);
            return sum;
        });
    }

    int fair(int n, int purse) {
        if (n < 0 || n > 10 || purse < 0 || purse > 999) return -1;
        if (guests.isEmpty()) return -2;
        return tellJoy(n, purse, r -> {
            int least = Integer.MAX_VALUE;
            for (int g = 0; g < guests.size(); g++) least = Math.min(least, joyOf(g, r));
            return least;
        });
    }

    int cheap(int n) {
        if (n < 0 || n > 10) return -1;
        List<Integer> found = greatest(further(), r -> {
            for (int d : r) for (int g = 0; g < guests.size(); g++) if (hungry(g, d)) return false;
            return r.size() == n;
        }, r -> -costOf(r));
        if (found == null) return -2;
        row = found;
        return costOf(found);
    }

    int dear(int n) {
        if (n < 0 || n > 10) return -1;
        List<Integer> found = greatest(further(), r -> r.size() == n, this::costOf);
        if (found == null) return -2;
        row = found;
        return costOf(found);
    }

    // ---- two cooks by turns

    /** Who is on turn: 1 if the other one is shamed; how many more; the first DISH. */
    private int[] play(List<Integer> served) {
        int[] found = null;
        for (int d : next(served)) {
            served.add(d);
            int[] then = play(served);
            served.remove(served.size() - 1);
            int[] mine = {1 - then[0], then[1] + 1, d};
            boolean better = found == null || mine[0] > found[0]
                    || mine[0] == found[0] && (mine[0] == 1 ? mine[1] < found[1] : mine[1] > found[1]);
            if (better) found = mine;
        }
        return found == null ? new int[] {0, 0, -1} : found;
    }

    private List<Integer> next(List<Integer> served) {
        List<Integer> next = new ArrayList<>();
        for (int d = 0; d < dishes.size(); d++) {
            if (why(dishesOf(served), dishes.get(d), law, stores) == 0) next.add(d);
        }
        return next;
    }

    int game() {
        int[] found = play(new ArrayList<>(banquet));
        set(found[0] == 1 ? found[2] : -1, found[1]);
        return found[0];
    }

    /** 1 if the one who is greedy is shamed; how many more. */
    private int[] playGreedy(List<Integer> served, boolean greedyOn) {
        List<Integer> next = next(served);
        if (next.isEmpty()) return new int[] {greedyOn ? 1 : 0, 0};
        if (greedyOn) {
            next.sort(Comparator.comparingInt((Integer d) -> -dish(d, 4)).thenComparingInt(d -> d));
            next = next.subList(0, 1);
        }
        int[] found = null;
        for (int d : next) {
            served.add(d);
            int[] then = playGreedy(served, !greedyOn);
            served.remove(served.size() - 1);
            then[1]++;
            if (found == null || then[0] > found[0]
                    || then[0] == found[0] && (then[0] == 1 ? then[1] < found[1] : then[1] > found[1])) found = then;
        }
        return found;
    }

    int greedy() {
        int[] found = playGreedy(new ArrayList<>(banquet), true);
        set(found[1]);
        return found[0];
    }

    // ---- mends

    private static int unlike(List<Integer> a, List<Integer> b) {
        int n = 0;
        for (int p = 0; p < a.size(); p++) if (!a.get(p).equals(b.get(p))) n++;
        return n;
    }

    int mend(int i, int stuff) {
        if (stuff < -1 || stuff > 7) return -1;
        if (!whole(i)) return -3;
        List<Integer> menu = menus.get(i);
        int[] left = stores.clone();
        if (stuff >= 0) left[stuff] = 0;
        List<Integer> found = greatest(rows(List.of(), left), r -> r.size() == menu.size(), r -> -unlike(r, menu));
        if (found == null) return -2;
        row = found;
        return unlike(found, menu);
    }

    private List<List<Integer>> filled(List<Integer> menu) {
        List<List<Integer>> rows = anew();
        rows.removeIf(r -> {
            if (r.size() != menu.size()) return true;
            for (int p = 0; p < r.size(); p++) if (menu.get(p) >= 0 && !menu.get(p).equals(r.get(p))) return true;
            return false;
        });
        return rows;
    }

    long fills(int i) {
        if (!laid(i)) return -3;
        List<List<Integer>> rows = filled(menus.get(i));
        row = rows.isEmpty() ? new ArrayList<>() : rows.get(0);
        return rows.size();
    }

    int sure(int i, int k) {
        if (!laid(i) || k < 0 || k >= menus.get(i).size()) return -3;
        List<List<Integer>> rows = filled(menus.get(i));
        int bits = rows.isEmpty() ? 0 : 1023;
        for (List<Integer> r : rows) bits &= 1 << r.get(k);
        return bits;
    }

    // ---- hearths

    int hearths(int i) {
        if (!whole(i)) return -3;
        List<Integer> menu = menus.get(i);
        int[] busy = new int[24];
        row = new ArrayList<>();
        for (int p = 0; p < menu.size(); p++) {
            int begun = 10 + p - dishes.get(menu.get(p)).hours;
            row.add(begun);
            for (int hour = begun; hour < 10 + p; hour++) busy[hour]++;
        }
        return Arrays.stream(busy).max().getAsInt();
    }

    int late(int i, int h) {
        if (h < 1 || h > 9) return -1;
        if (!whole(i)) return -3;
        int[] free = new int[h];
        int late = 0;
        row = new ArrayList<>();
        for (int p = 0; p < menus.get(i).size(); p++) {
            Arrays.sort(free);
            free[0] += dishes.get(menus.get(i).get(p)).hours;
            row.add(free[0]);
            while (free[0] > 10 + p + late) late++;
        }
        return late;
    }

    // ---- what somebody died of

    private int eaten(int i, int guest) {
        int bits = 0;
        for (int d : menus.get(i)) if (!hungry(guest, d)) bits |= dishes.get(d).stuffs;
        return bits;
    }

    int poison(int i, int died) {
        if (died < 0 || died >= 1 << guests.size()) return -1;
        if (!whole(i)) return -3;
        int bits = 0;
        for (int s = 0; s < 8; s++) {
            boolean bad = true;
            for (int g = 0; g < guests.size(); g++) bad &= (eaten(i, g) >> s & 1) == (died >> g & 1);
            if (bad) bits |= 1 << s;
        }
        return bits;
    }

    int eats(int i, int guest) {
        if (!isGuest(guest)) return -1;
        if (!whole(i)) return -3;
        int places = 0, joy = 0, n = 0;
        for (int p = 0; p < menus.get(i).size(); p++) {
            int d = menus.get(i).get(p);
            if (!hungry(guest, d)) {
                places |= 1 << p;
                joy += joy(guest, d);
                n++;
            }
        }
        set(places, eaten(i, guest), joy);
        return n;
    }

    // ---- a dish made

    private boolean canAll(List<Dish> all, List<Dish> row) {
        if (row.size() == all.size()) return true;
        for (Dish d : all) {
            if (why(row, d, law, stores) == 0) {
                row.add(d);
                boolean fine = canAll(all, row);
                row.remove(row.size() - 1);
                if (fine) return true;
            }
        }
        return false;
    }

    private boolean isEnough(List<Dish> all) {
        for (int s = 0; s < 8; s++) {
            int uses = 0;
            for (Dish d : all) uses += d.stuffs >> s & 1;
            if (uses > law[1] || uses > stores[s]) return false;
        }
        return true;
    }

    int made() {
        if (isEnough(dishes) && canAll(dishes, new ArrayList<>())) {
            set(0);
            return 0;
        }
        for (int n = 1; n <= 8; n++) {
            for (int stuffs = 1; stuffs < 256; stuffs++) {
                if (Integer.bitCount(stuffs) != n) continue;
                Dish made = new Dish();
                made.stuffs = stuffs;
                List<Dish> all = new ArrayList<>(dishes);
                all.add(made);
                if (isEnough(all) && canAll(all, new ArrayList<>())) {
                    set(stuffs);
                    return n;
                }
            }
        }
        return -2;
    }

    // ---- kept

    boolean keep(int i) {
        if (i < 0 || i > 1) return false;
        kept[i] = new Kept();
        kept[i].banquet = new ArrayList<>(banquet);
        kept[i].stores = stores.clone();
        kept[i].law = law.clone();
        kept[i].dishes = dishes.size();
        return true;
    }

    boolean again(int i) {
        if (i < 0 || i > 1 || kept[i] == null || kept[i].dishes != dishes.size()) return false;
        banquet = new ArrayList<>(kept[i].banquet);
        stores = kept[i].stores.clone();
        law = kept[i].law.clone();
        return true;
    }

    int count(int what) {
        switch (what) {
            case 0: return dishes.size();
            case 1: return guests.size();
            case 2: return banquet.size();
            case 3: return banquet.isEmpty() ? -1 : banquet.get(banquet.size() - 1);
            case 4: return costOf(banquet);
            case 5: return row.size();
            case 6: return text.length();
            case 7: return (laid(0) ? 1 : 0) + (laid(1) ? 2 : 0) + (laid(2) ? 4 : 0);
            default: return -1;
        }
    }

    int row(int i) {
        if (i < 0 || i >= row.size()) throw new NoSuchElementException();
        return row.get(i);
    }

    /** How many rows there are from nothing on, counted no further than a bound: whether to ask is dear. */
    int rowsUpTo(int bound) {
        return countRows(new ArrayList<>(), 0, bound);
    }

    private int countRows(List<Dish> ahead, int counted, int bound) {
        int count = counted + 1;
        for (Dish dish : dishes) {
            if (count < bound && why(ahead, dish, law, stores) == 0) {
                ahead.add(dish);
                count = countRows(ahead, count, bound);
                ahead.remove(ahead.size() - 1);
            }
        }
        return count;
    }
}
