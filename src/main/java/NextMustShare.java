import java.util.Arrays;
import java.util.NoSuchElementException;

/** A court's kitchen and table at which each dish must share something with the dish ahead of it. */
public final class NextMustShare {
    public static final int NONE = -1;

    private static final int STUFFS = 8;
    private static final int DISHES = 10;
    private static final int GUESTS = 6;
    private static final int MENUS = 3;
    private static final int KEPT = 2;
    private static final int ALL_DISHES = (1 << DISHES) - 1;
    private static final int ALL_STUFFS = (1 << STUFFS) - 1;
    private static final int SETS = 1 << DISHES;
    /** A bit among those of dishes: the table's edge, ahead of the first dish or behind the last. */
    private static final int EDGE = DISHES;
    private static final int ANY_END = 1 << EDGE | ALL_DISHES;
    private static final int LASTS = DISHES + 1;
    private static final int MOST_STORE = 99;
    private static final int MOST_COST = 99;
    private static final int MOST_PURSE = 999;
    private static final int FIRST_HOUR = 10;
    /** Below what any row can be worth; its opposite is above. */
    private static final int IMPOSSIBLE = -1000000;

    private final Text text = new Text();
    private final Larder larder = new Larder();
    private final Reader reader = new Reader();
    private final Taste taste = new Taste();
    private final Law rules = new Law();
    private final Law otherRules = new Law();
    private final Banquet table = new Banquet();
    private final Menu[] menus = new Menu[MENUS];
    private final Menu bothMenus = new Menu(2 * DISHES);
    private final Law[] keptRules = new Law[KEPT];
    private final Banquet[] keptTables = new Banquet[KEPT];
    private final int[] keptDishes = new int[KEPT];
    private final Steps steps = new Steps();
    private final Plan plan = new Plan();
    private final Match match = new Match();
    private final Row told = new Row();

    public NextMustShare() {
        for (int i = 0; i < MENUS; i++) {
            menus[i] = new Menu(DISHES);
        }
        for (int i = 0; i < KEPT; i++) {
            keptRules[i] = new Law();
            keptTables[i] = new Banquet();
            keptDishes[i] = NONE;
        }
    }

    // ---- the kitchen

    public int sign(int v) {
        return text.append(v) ? text.length() : NONE;
    }

    public boolean end(int n) {
        return text.cutTo(n);
    }

    public int kitchen() {
        int answer = reader.read(text, larder);
        text.clear();
        return answer;
    }

    public int rule() {
        int answer = taste.read(text);
        text.clear();
        return answer;
    }

    public int dish(int dish, int what) throws NoSuchElementException {
        if (!larder.hasDish(dish) || what < 0 || what > 5) {
            throw new NoSuchElementException();
        }
        switch (what) {
            case 0: return larder.stuffsOf(dish);
            case 1: return larder.costOf(dish);
            case 2: return larder.heatOf(dish);
            case 3: return larder.hoursOf(dish);
            case 4: return taste.ofAll(larder, dish);
            default: return Integer.bitCount(larder.hungryAt(dish));
        }
    }

    public int guest(int guest, int what) throws NoSuchElementException {
        if (!larder.hasGuest(guest) || what < 0 || what > 1) {
            throw new NoSuchElementException();
        }
        return what == 0 ? larder.lovedBy(guest) : larder.barredBy(guest);
    }

    public int joy(int guest, int dish) throws NoSuchElementException {
        if (!larder.hasGuest(guest) || !larder.hasDish(dish)) {
            throw new NoSuchElementException();
        }
        return taste.of(larder, guest, dish);
    }

    public int law(int what, int v) {
        return Law.allows(what, v) ? rules.change(what, v) : NONE;
    }

    public int store(int stuff, int v) {
        boolean fine = stuff >= 0 && stuff < STUFFS && v >= 0 && v <= MOST_STORE;
        return fine ? rules.restock(stuff, v) : NONE;
    }

    public int sheet(int kind, int n, int f, int step) {
        if (kind < 0 || kind > 3 || n > DISHES) {
            return NONE;
        }
        if (kind < 3 && n < 0) {
            return -2;
        }
        int entries = kind == 3 ? 0 : n;
        int sum = 0;
        for (int d = 0; d < larder.dishes(); d++) {
            larder.price(d, d < entries ? asEntry(kind, f + d * step) : 0);
            sum += larder.costOf(d);
        }
        return kind == 3 ? -3 : sum;
    }

    private static int asEntry(int kind, int v) {
        int entry = kind == 0 ? (byte) v : kind == 1 ? (short) v : v;
        return Math.max(0, Math.min(MOST_COST, entry));
    }

    // ---- the banquet

    public int serve(int dish) {
        if (!larder.hasDish(dish)) {
            return NONE;
        }
        int why = rules.refusal(larder, table.set(), table.last(), dish);
        if (why != 0) {
            return why;
        }
        table.add(dish);
        return table.size();
    }

    public int back() {
        return table.takeLast();
    }

    public int over() {
        int had = table.size();
        rules.useUp(larder, table.set());
        table.clear();
        return had;
    }

    public int can() {
        int bits = 0;
        for (int d = 0; d < larder.dishes(); d++) {
            if (rules.refusal(larder, table.set(), table.last(), d) == 0) {
                bits |= 1 << d;
            }
        }
        return bits;
    }

    public int menu(int i) {
        int answer = i >= 0 && i < MENUS ? menus[i].read(text, larder.dishes()) : -100;
        text.clear();
        return answer;
    }

    public int look(int i) {
        if (!isLaid(i)) {
            return -3;
        }
        Menu menu = menus[i];
        int fault = menu.fault(larder, rules);
        int till = fault == NONE ? menu.size() : fault;
        told.clear();
        told.add(menu.whyAt(till, larder, rules));
        told.add(menu.costTill(till, larder));
        told.add(menu.hungryTill(till, larder));
        return fault == NONE ? -2 : fault;
    }

    public boolean swap(int i, int j, int k) {
        return i >= 0 && i < MENUS && menus[i].exchange(j, k);
    }

    public boolean turn(int i) {
        if (!isLaid(i)) {
            return false;
        }
        menus[i].reverse();
        return true;
    }

    public int joined(int i, int j) {
        if (!isWhole(i) || !isWhole(j)) {
            return -3;
        }
        bothMenus.clear();
        bothMenus.addAll(menus[i]);
        bothMenus.addAll(menus[j]);
        int fault = bothMenus.fault(larder, rules);
        told.clear();
        told.add(fault == NONE ? 0 : bothMenus.whyAt(fault, larder, rules));
        return fault == NONE ? -2 : fault;
    }

    public int falls(int share, int times, int heat) {
        if (!Law.allows(0, share) || !Law.allows(1, times) || !Law.allows(2, heat)) {
            return NONE;
        }
        otherRules.copy(rules);
        otherRules.change(0, share);
        otherRules.change(1, times);
        otherRules.change(2, heat);
        int bits = 0;
        for (int i = 0; i < MENUS; i++) {
            if (isWhole(i) && menus[i].fault(larder, rules) == NONE
                    && menus[i].fault(larder, otherRules) != NONE) {
                bits |= 1 << i;
            }
        }
        return bits;
    }

    private boolean isLaid(int i) {
        return i >= 0 && i < MENUS && menus[i].size() > 0;
    }

    private boolean isWhole(int i) {
        return isLaid(i) && menus[i].isKnown();
    }

    // ---- how it can go on (from THE BANQUET as it is, by THE LAW and STORES)

    public int longest() {
        goOn(ALL_DISHES);
        return tellMost();
    }

    public long ways(int n) {
        if (n < 0 || n > DISHES) {
            return NONE;
        }
        goOn(ALL_DISHES);
        return match.countRows(steps, n);
    }

    public int between(int first, int last) {
        return tellBetween(first, last, 1);
    }

    public int shortest(int first, int last) {
        return tellBetween(first, last, -1);
    }

    public int bears(int guest) {
        if (!larder.hasGuest(guest)) {
            return NONE;
        }
        goOn(~larder.barredTo(guest));
        return tellMost();
    }

    public int beside(int dish) {
        return larder.hasDish(dish) ? larder.sharing(dish, rules.share()) : NONE;
    }

    public int parts() {
        told.clear();
        int seen = 0;
        for (int d = 0; d < larder.dishes(); d++) {
            if ((seen >> d & 1) == 0) {
                int part = larder.partOf(d, rules.share());
                seen |= part;
                told.add(part);
            }
        }
        return told.size();
    }

    public int rare() {
        int rarest = NONE;
        int fewest = DISHES + 1;
        for (int s = 0; s < STUFFS; s++) {
            int holders = Integer.bitCount(larder.holdersOf(s));
            if (holders > 0 && holders < fewest) {
                fewest = holders;
                rarest = s;
            }
        }
        if (rarest == NONE) {
            return -2;
        }
        told.clear();
        told.add(larder.holdersOf(rarest));
        return rarest;
    }

    public int round() {
        beginAnew(rules);
        plan.begin();
        plan.weighAll(larder, 1);
        int longest = IMPOSSIBLE;
        int start = NONE;
        for (int d = 0; d < larder.dishes(); d++) {
            goRound(d);
            int length = plan.greatest(steps, 3, DISHES);
            if (length > longest) {
                longest = length;
                start = d;
            }
        }
        if (start == NONE) {
            return -2;
        }
        goRound(start);
        plan.seek(steps, longest, longest);
        told.clear();
        plan.tell(steps, told);
        return longest;
    }

    public int shut(int n) {
        if (n < 0 || n > DISHES - 1) {
            return NONE;
        }
        beginAnew(rules);
        steps.reach();
        return larder.all() & ~steps.inSetsAbove(n);
    }

    private void goOn(int allowed) {
        steps.learn(larder, rules);
        steps.begin(table.set(), table.last(), allowed);
        steps.reach();
    }

    private void beginAnew(Law law) {
        steps.learn(larder, law);
        steps.begin(0, NONE, ALL_DISHES);
    }

    private int tellMost() {
        plan.begin();
        plan.weighAll(larder, 1);
        plan.seek(steps, 0, DISHES);
        told.clear();
        plan.tell(steps, told);
        return told.size();
    }

    private int tellBetween(int first, int last, int weight) {
        if (!larder.hasDish(first) || !larder.hasDish(last)) {
            return NONE;
        }
        beginAnew(rules);
        steps.allow(0, 1 << first);
        steps.reach();
        plan.begin();
        plan.weighAll(larder, weight);
        plan.endWith(1 << last);
        if (plan.seek(steps, 1, DISHES) == IMPOSSIBLE) {
            return -2;
        }
        told.clear();
        plan.tell(steps, told);
        return told.size();
    }

    private void goRound(int first) {
        steps.allow(0, 1 << first);
        steps.reach();
        plan.endWith(larder.sharing(first, rules.share()));
    }

    // ---- joy

    public int best(int n, int purse) {
        if (n < 0 || n > DISHES || purse < 0 || purse > MOST_PURSE) {
            return NONE;
        }
        plan.begin();
        plan.addLine();
        for (int d = 0; d < larder.dishes(); d++) {
            plan.weigh(d, taste.ofAll(larder, d));
        }
        return tellJoy(n, purse);
    }

    public int fair(int n, int purse) {
        if (n < 0 || n > DISHES || purse < 0 || purse > MOST_PURSE) {
            return NONE;
        }
        if (larder.guests() == 0) {
            return -2;
        }
        plan.begin();
        for (int g = 0; g < larder.guests(); g++) {
            plan.addLine();
            for (int d = 0; d < larder.dishes(); d++) {
                plan.weigh(d, taste.of(larder, g, d));
            }
        }
        return tellJoy(n, purse);
    }

    public int cheap(int n) {
        return n < 0 || n > DISHES ? NONE : tellCost(n, larder.barredToNobody(), -1);
    }

    public int dear(int n) {
        return n < 0 || n > DISHES ? NONE : tellCost(n, ALL_DISHES, 1);
    }

    private int tellJoy(int n, int purse) {
        goOn(ALL_DISHES);
        plan.limit(larder, purse);
        int most = plan.seek(steps, n, n);
        if (most == IMPOSSIBLE) {
            return -2;
        }
        told.clear();
        told.add(most);
        plan.tell(steps, told);
        return 1;
    }

    private int tellCost(int n, int allowed, int factor) {
        goOn(allowed);
        plan.begin();
        plan.addLine();
        for (int d = 0; d < larder.dishes(); d++) {
            plan.weigh(d, factor * larder.costOf(d));
        }
        int most = plan.seek(steps, n, n);
        if (most == IMPOSSIBLE) {
            return -2;
        }
        told.clear();
        plan.tell(steps, told);
        return factor * most;
    }

    // ---- two cooks by turns

    public int game() {
        goOn(ALL_DISHES);
        return match.playBoth(steps, told);
    }

    public int greedy() {
        goOn(ALL_DISHES);
        return match.playGreedy(steps, larder, taste, told);
    }

    // ---- mends

    public int mend(int i, int stuff) {
        if (stuff < NONE || stuff >= STUFFS) {
            return NONE;
        }
        if (!isWhole(i)) {
            return -3;
        }
        otherRules.copy(rules);
        if (stuff != NONE) {
            otherRules.restock(stuff, 0);
        }
        beginAnew(otherRules);
        steps.reach();
        return match.mending(steps, menus[i], told);
    }

    public long fills(int i) {
        if (!isLaid(i)) {
            return -3;
        }
        int size = menus[i].size();
        layFilled(menus[i]);
        told.clear();
        if (plan.seek(steps, size, size) != IMPOSSIBLE) {
            plan.tell(steps, told);
        }
        return match.countRows(steps, size);
    }

    public int sure(int i, int k) {
        if (!isLaid(i) || k < 0 || k >= menus[i].size()) {
            return -3;
        }
        int size = menus[i].size();
        layFilled(menus[i]);
        if (plan.seek(steps, size, size) == IMPOSSIBLE) {
            return 0;
        }
        int possible = plan.possibleAt(steps, k);
        return Integer.bitCount(possible) == 1 ? possible : 0;
    }

    private void layFilled(Menu menu) {
        beginAnew(rules);
        for (int p = 0; p < menu.size(); p++) {
            if (menu.at(p) != NONE) {
                steps.allow(p, 1 << menu.at(p));
            }
        }
        steps.reach();
        plan.begin();
        plan.weighAll(larder, 1);
    }

    // ---- hearths

    public int hearths(int i) {
        if (!isWhole(i)) {
            return -3;
        }
        Menu menu = menus[i];
        told.clear();
        for (int p = 0; p < menu.size(); p++) {
            told.add(FIRST_HOUR + p - larder.hoursOf(menu.at(p)));
        }
        return menu.mostAtOnce(larder);
    }

    public int late(int i, int h) {
        if (h < 1 || h > 9) {
            return NONE;
        }
        if (!isWhole(i)) {
            return -3;
        }
        told.clear();
        return menus[i].cook(larder, h, told);
    }

    // ---- what somebody died of

    public int poison(int i, int died) {
        if (died < 0 || died >> larder.guests() != 0) {
            return NONE;
        }
        if (!isWhole(i)) {
            return -3;
        }
        int suspect = ALL_STUFFS;
        for (int g = 0; g < larder.guests(); g++) {
            int ate = menus[i].stuffsEaten(larder, g);
            suspect &= (died >> g & 1) == 1 ? ate : ~ate;
        }
        return suspect;
    }

    public int eats(int i, int guest) {
        if (!larder.hasGuest(guest)) {
            return NONE;
        }
        if (!isWhole(i)) {
            return -3;
        }
        Menu menu = menus[i];
        int places = menu.placesEaten(larder, guest);
        int sum = 0;
        for (int p = 0; p < menu.size(); p++) {
            sum += (places >> p & 1) * taste.of(larder, guest, menu.at(p));
        }
        told.clear();
        told.add(places);
        told.add(menu.stuffsEaten(larder, guest));
        told.add(sum);
        return Integer.bitCount(places);
    }

    // ---- a dish made

    public int made() {
        beginAnew(rules);
        steps.reach();
        int stuffs = plan.joiningStuffs(steps, larder, rules);
        if (stuffs == NONE) {
            return -2;
        }
        told.clear();
        told.add(stuffs);
        return Integer.bitCount(stuffs);
    }

    // ---- kept

    public boolean keep(int i) {
        if (i < 0 || i >= KEPT) {
            return false;
        }
        keptRules[i].copy(rules);
        keptTables[i].copy(table);
        keptDishes[i] = larder.dishes();
        return true;
    }

    public boolean again(int i) {
        if (i < 0 || i >= KEPT || keptDishes[i] != larder.dishes()) {
            return false;
        }
        rules.copy(keptRules[i]);
        table.copy(keptTables[i]);
        return true;
    }

    public int count(int what) {
        switch (what) {
            case 0: return larder.dishes();
            case 1: return larder.guests();
            case 2: return table.size();
            case 3: return table.last();
            case 4: return larder.costOfAll(table.set());
            case 5: return told.size();
            case 6: return text.length();
            case 7: return menusLaid();
            default: return NONE;
        }
    }

    public int row(int i) throws NoSuchElementException {
        if (i < 0 || i >= told.size()) {
            throw new NoSuchElementException();
        }
        return told.at(i);
    }

    private int menusLaid() {
        int bits = 0;
        for (int i = 0; i < MENUS; i++) {
            bits |= isLaid(i) ? 1 << i : 0;
        }
        return bits;
    }

    /** THE TEXT: signs that calls read. */
    private static final class Text {
        private final int[] signs = new int[80];
        private int length;

        int length() {
            return length;
        }

        boolean append(int v) {
            if (length + 4 > signs.length) {
                return false;
            }
            for (int k = 0; k < 4; k++) {
                signs[length + k] = v >>> 24 - 8 * k & 255;
            }
            length += 4;
            return true;
        }

        boolean cutTo(int n) {
            if (n < 0 || n > length) {
                return false;
            }
            length = n;
            return true;
        }

        void clear() {
            length = 0;
        }

        /** NONE at the end, and from the bound on: a reader then stops there, whatever comes behind. */
        int at(int place, int bound) {
            return place >= 0 && place < length && place < bound ? signs[place] : NONE;
        }

        boolean hasDigit(int place, int bound) {
            int sign = at(place, bound);
            return sign >= '0' && sign <= '9';
        }
    }

    /** THE ROW. */
    private static final class Row {
        private final int[] numbers = new int[2 * DISHES];
        private int size;

        int size() {
            return size;
        }

        int at(int i) {
            return i >= 0 && i < size ? numbers[i] : NONE;
        }

        void clear() {
            size = 0;
        }

        void add(int v) {
            if (size < numbers.length) {
                numbers[size] = v;
                size++;
            }
        }
    }

    /** THE KITCHEN: DISHES and GUESTS. A draft lies behind them, unseen until it is taken in. */
    private static final class Larder {
        private final int[] stuffs = new int[DISHES];
        private final int[] costs = new int[DISHES];
        private final int[] heats = new int[DISHES];
        private final int[] hours = new int[DISHES];
        private final int[] loves = new int[GUESTS];
        private final int[] bars = new int[GUESTS];
        private final int[] holders = new int[STUFFS];
        private int dishes;
        private int guests;

        int dishes() {
            return dishes;
        }

        int guests() {
            return guests;
        }

        boolean hasDish(int dish) {
            return dish >= 0 && dish < dishes;
        }

        boolean hasGuest(int guest) {
            return guest >= 0 && guest < guests;
        }

        /** All DISHES, as bits. */
        int all() {
            return (1 << dishes) - 1;
        }

        int stuffsOf(int dish) {
            return hasDish(dish) ? stuffs[dish] : 0;
        }

        int costOf(int dish) {
            return hasDish(dish) ? costs[dish] : 0;
        }

        int heatOf(int dish) {
            return hasDish(dish) ? heats[dish] : 0;
        }

        int hoursOf(int dish) {
            return hasDish(dish) ? hours[dish] : 0;
        }

        int lovedBy(int guest) {
            return hasGuest(guest) ? loves[guest] : 0;
        }

        int barredBy(int guest) {
            return hasGuest(guest) ? bars[guest] : 0;
        }

        /** DISHES in which a STUFF is. */
        int holdersOf(int stuff) {
            return stuff >= 0 && stuff < STUFFS ? holders[stuff] : 0;
        }

        void draftDish(int dish, int parts, int cost, int heat, int time) {
            if (dish >= dishes && dish < DISHES) {
                stuffs[dish] = parts;
                costs[dish] = cost;
                heats[dish] = heat;
                hours[dish] = time;
            }
        }

        void draftGuest(int guest, int loved, int barred) {
            if (guest >= guests && guest < GUESTS) {
                loves[guest] = loved;
                bars[guest] = barred;
            }
        }

        void takeIn(int allDishes, int allGuests) {
            if (allDishes < dishes || allDishes > DISHES || allGuests < guests || allGuests > GUESTS) {
                return;
            }
            for (int d = dishes; d < allDishes; d++) {
                for (int s = 0; s < STUFFS; s++) {
                    holders[s] |= (stuffs[d] >> s & 1) << d;
                }
            }
            dishes = allDishes;
            guests = allGuests;
        }

        void price(int dish, int cost) {
            if (hasDish(dish)) {
                costs[dish] = cost;
            }
        }

        int costOfAll(int set) {
            int sum = 0;
            for (int d = 0; d < dishes; d++) {
                sum += (set >> d & 1) * costs[d];
            }
            return sum;
        }

        boolean isHungry(int guest, int dish) {
            return (barredBy(guest) & stuffsOf(dish)) != 0;
        }

        /** GUESTS that go HUNGRY at a DISH. */
        int hungryAt(int dish) {
            int bits = 0;
            for (int g = 0; g < guests; g++) {
                bits |= isHungry(g, dish) ? 1 << g : 0;
            }
            return bits;
        }

        /** DISHES at which a GUEST goes HUNGRY. */
        int barredTo(int guest) {
            int bits = 0;
            for (int d = 0; d < dishes; d++) {
                bits |= isHungry(guest, d) ? 1 << d : 0;
            }
            return bits;
        }

        int barredToNobody() {
            int bits = all();
            for (int g = 0; g < guests; g++) {
                bits &= ~barredTo(g);
            }
            return bits;
        }

        int hotDishes() {
            int bits = 0;
            for (int d = 0; d < dishes; d++) {
                bits |= heats[d] << d;
            }
            return bits;
        }

        /** DISHES that have as many of some STUFFS as are to be shared. */
        int holdersOfSome(int parts, int share) {
            int bits = 0;
            for (int d = 0; d < dishes; d++) {
                bits |= Integer.bitCount(stuffs[d] & parts) >= share ? 1 << d : 0;
            }
            return bits;
        }

        int sharing(int dish, int share) {
            return holdersOfSome(stuffsOf(dish), share) & ~(1 << dish);
        }

        /** DISHES that hang together with a DISH, itself too. */
        int partOf(int dish, int share) {
            int part = 1 << dish;
            for (int turn = 0; turn < dishes; turn++) {
                for (int d = 0; d < dishes; d++) {
                    part |= (part >> d & 1) == 1 ? sharing(d, share) : 0;
                }
            }
            return part;
        }
    }

    /** Reads LINES of THE KITCHEN. */
    private static final class Reader {
        private static final int MOST = 76;
        private int place;
        private int dishes;
        private int guests;

        int read(Text text, Larder larder) {
            place = 0;
            dishes = larder.dishes();
            guests = larder.guests();
            if (text.length() == 0) {
                return 0;
            }
            int lines = 0;
            boolean more = true;
            while (more && lines < MOST) {
                if (!readLine(text, larder)) {
                    return -1 - place;
                }
                lines++;
                more = text.at(place, MOST) == ';';
                place += more ? 1 : 0;
            }
            if (place < text.length()) {
                return -1 - place;
            }
            larder.takeIn(dishes, guests);
            return lines;
        }

        private boolean readLine(Text text, Larder larder) {
            int sign = text.at(place, MOST);
            if (sign == 'G') {
                return guests < GUESTS && readGuest(text, larder);
            }
            return sign >= 'a' && sign < 'a' + STUFFS && dishes < DISHES && readDish(text, larder);
        }

        private boolean readGuest(Text text, Larder larder) {
            place++;
            int loved = readStuffs(text);
            if (text.at(place, MOST) != '-') {
                return false;
            }
            place++;
            larder.draftGuest(guests, loved, readStuffs(text));
            guests++;
            return true;
        }

        private boolean readDish(Text text, Larder larder) {
            int stuffs = readStuffs(text);
            if (!text.hasDigit(place, MOST)) {
                return false;
            }
            int cost = readDigit(text);
            if (text.hasDigit(place, MOST)) {
                cost = 10 * cost + readDigit(text);
            }
            int heat = text.at(place, MOST) == 'H' ? 1 : 0;
            place += heat;
            int hours = 0;
            if (text.at(place, MOST) == '+') {
                place++;
                if (!text.hasDigit(place, MOST)) {
                    return false;
                }
                hours = readDigit(text);
            }
            larder.draftDish(dishes, stuffs, cost, heat, hours);
            dishes++;
            return true;
        }

        private int readDigit(Text text) {
            int digit = text.at(place, MOST) - '0';
            place++;
            return digit;
        }

        /** Stops at a letter that does not rise: no LINE can go on with one there. */
        private int readStuffs(Text text) {
            int bits = 0;
            for (int k = 0; k < STUFFS; k++) {
                int stuff = text.at(place, MOST) - 'a';
                if (stuff < 0 || stuff >= STUFFS || bits >> stuff != 0) {
                    return bits;
                }
                bits |= 1 << stuff;
                place++;
            }
            return bits;
        }
    }

    /** THE RULE, kept with each operator behind what it works on, and JOY by it. */
    private static final class Taste {
        private static final int MOST = 40;
        private static final int DEEPEST = 4;
        private static final int LONGEST_NUMBER = 3;
        private static final int MOST_JOY = 999;
        /** Codes below are numbers, codes from it on are signs. */
        private static final int SIGN = 1000;
        private static final int NEGATE = SIGN + '~';
        private final int[] codes = new int[MOST];
        private final int[] draft = new int[MOST];
        private final int[] stack = new int[MOST];
        private int size;
        private int drafted;
        private int top;
        private int place;

        int read(Text text) {
            place = 0;
            drafted = 0;
            if (text.length() > 0 && (!readExpression(text, 0) || place < text.length())) {
                return -1 - place;
            }
            System.arraycopy(draft, 0, codes, 0, MOST);
            size = drafted;
            return 0;
        }

        private boolean readExpression(Text text, int depth) {
            if (!readSum(text, depth)) {
                return false;
            }
            int sign = text.at(place, MOST);
            if (sign != '<' && sign != '>' && sign != '=') {
                return true;
            }
            place++;
            if (!readSum(text, depth)) {
                return false;
            }
            emit(SIGN + sign);
            return true;
        }

        private boolean readSum(Text text, int depth) {
            boolean fine = readProduct(text, depth);
            int sign = text.at(place, MOST);
            for (int k = 0; k < MOST && fine && (sign == '+' || sign == '-'); k++) {
                place++;
                fine = readProduct(text, depth);
                emit(SIGN + sign);
                sign = text.at(place, MOST);
            }
            return fine;
        }

        private boolean readProduct(Text text, int depth) {
            boolean fine = readFactor(text, depth);
            int sign = text.at(place, MOST);
            for (int k = 0; k < MOST && fine && (sign == '*' || sign == '/'); k++) {
                place++;
                fine = readFactor(text, depth);
                emit(SIGN + sign);
                sign = text.at(place, MOST);
            }
            return fine;
        }

        private boolean readFactor(Text text, int depth) {
            boolean negative = false;
            for (int k = 0; k < MOST && text.at(place, MOST) == '-'; k++) {
                negative = !negative;
                place++;
            }
            if (!readThing(text, depth)) {
                return false;
            }
            if (negative) {
                emit(NEGATE);
            }
            return true;
        }

        private boolean readThing(Text text, int depth) {
            int sign = text.at(place, MOST);
            if (sign == '(') {
                return depth < DEEPEST && readBracket(text, depth);
            }
            if (text.hasDigit(place, MOST)) {
                readNumber(text);
                return true;
            }
            if (!isQuality(sign)) {
                return false;
            }
            emit(SIGN + sign);
            place++;
            return true;
        }

        private boolean readBracket(Text text, int depth) {
            place++;
            if (!readExpression(text, depth + 1) || text.at(place, MOST) != ')') {
                return false;
            }
            place++;
            return true;
        }

        private void readNumber(Text text) {
            int number = 0;
            for (int k = 0; k < LONGEST_NUMBER && text.hasDigit(place, MOST); k++) {
                number = 10 * number + text.at(place, MOST) - '0';
                place++;
            }
            emit(number);
        }

        private static boolean isQuality(int sign) {
            switch (sign) {
                case 'l':
                case 'b':
                case 'n':
                case 'c':
                case 'h':
                case 'o':
                case 'g':
                case 'd':
                    return true;
                default:
                    return false;
            }
        }

        private void emit(int code) {
            if (drafted < MOST) {
                draft[drafted] = code;
                drafted++;
            }
        }

        /** JOY of a GUEST in a DISH. */
        int of(Larder larder, int guest, int dish) {
            if (size == 0) {
                return Integer.bitCount(larder.lovedBy(guest) & larder.stuffsOf(dish));
            }
            top = 0;
            for (int k = 0; k < size && k < MOST; k++) {
                int code = codes[k];
                if (code < SIGN) {
                    push(code);
                } else if (isQuality(code - SIGN)) {
                    push(quality(code - SIGN, larder, guest, dish));
                } else if (code == NEGATE) {
                    push(-pop());
                } else {
                    int right = pop();
                    push(result(code - SIGN, pop(), right));
                }
            }
            return Math.max(-MOST_JOY, Math.min(MOST_JOY, pop()));
        }

        int ofAll(Larder larder, int dish) {
            int sum = 0;
            for (int g = 0; g < larder.guests(); g++) {
                sum += of(larder, g, dish);
            }
            return sum;
        }

        private void push(int v) {
            if (top >= 0 && top < stack.length) {
                stack[top] = v;
                top++;
            }
        }

        private int pop() {
            if (top < 1 || top > stack.length) {
                return 0;
            }
            top--;
            return stack[top];
        }

        private static int quality(int sign, Larder larder, int guest, int dish) {
            int stuffs = larder.stuffsOf(dish);
            switch (sign) {
                case 'l': return Integer.bitCount(stuffs & larder.lovedBy(guest));
                case 'b': return Integer.bitCount(stuffs & larder.barredBy(guest));
                case 'n': return Integer.bitCount(stuffs);
                case 'c': return larder.costOf(dish);
                case 'h': return larder.heatOf(dish);
                case 'o': return larder.hoursOf(dish);
                case 'g': return guest;
                default: return dish;
            }
        }

        private static int result(int sign, int left, int right) {
            switch (sign) {
                case '<': return left < right ? 1 : 0;
                case '>': return left > right ? 1 : 0;
                case '=': return left == right ? 1 : 0;
                case '+': return left + right;
                case '-': return left - right;
                case '*': return left * right;
                default: return right == 0 ? 0 : left / right;
            }
        }
    }

    /** THE LAW and STORES. */
    private static final class Law {
        private final int[] stores = new int[STUFFS];
        private int share = 1;
        private int times = 9;
        private int heat;

        Law() {
            Arrays.fill(stores, MOST_STORE);
        }

        static boolean allows(int what, int v) {
            switch (what) {
                case 0: return v >= 1 && v <= 8;
                case 1: return v >= 1 && v <= 9;
                case 2: return v >= 0 && v <= 2;
                default: return false;
            }
        }

        int share() {
            return share;
        }

        int heat() {
            return heat;
        }

        /** In how many DISHES a STUFF can be. */
        int most(int stuff) {
            return stuff >= 0 && stuff < STUFFS ? Math.min(times, stores[stuff]) : 0;
        }

        int change(int what, int v) {
            int was = what == 0 ? share : what == 1 ? times : heat;
            share = what == 0 ? v : share;
            times = what == 1 ? v : times;
            heat = what == 2 ? v : heat;
            return was;
        }

        int restock(int stuff, int v) {
            if (stuff < 0 || stuff >= STUFFS) {
                return NONE;
            }
            int was = stores[stuff];
            stores[stuff] = v;
            return was;
        }

        void copy(Law other) {
            share = other.share;
            times = other.times;
            heat = other.heat;
            System.arraycopy(other.stores, 0, stores, 0, STUFFS);
        }

        void useUp(Larder larder, int set) {
            for (int s = 0; s < STUFFS; s++) {
                stores[s] = Math.max(0, stores[s] - Integer.bitCount(larder.holdersOf(s) & set));
            }
        }

        /** Why a DISH can't come behind others, of which one is the last (or NONE): 0 if it can. */
        int refusal(Larder larder, int set, int last, int dish) {
            if ((set >> dish & 1) == 1) {
                return -2;
            }
            if (last != NONE && (larder.sharing(last, share) >> dish & 1) == 0) {
                return -3;
            }
            if (isAgainstHeat(larder.hotDishes(), set, last, dish)) {
                return -4;
            }
            boolean lacks = false;
            for (int s = 0; s < STUFFS; s++) {
                int uses = Integer.bitCount(larder.holdersOf(s) & (set | 1 << dish));
                if (uses > times) {
                    return -5;
                }
                lacks |= uses > stores[s];
            }
            return lacks ? -6 : 0;
        }

        private boolean isAgainstHeat(int hot, int set, int last, int dish) {
            if (heat == 1) {
                return (hot >> dish & 1) == 0 && (set & hot) != 0;
            }
            return heat == 2 && last != NONE && (hot >> last & 1) == (hot >> dish & 1);
        }
    }

    /** THE BANQUET. */
    private static final class Banquet {
        private final int[] row = new int[DISHES];
        private int size;
        private int set;

        int size() {
            return size;
        }

        /** The DISHES served, as bits. */
        int set() {
            return set;
        }

        int last() {
            return size > 0 && size <= DISHES ? row[size - 1] : NONE;
        }

        void add(int dish) {
            if (size < DISHES) {
                row[size] = dish;
                size++;
                set |= 1 << dish;
            }
        }

        int takeLast() {
            int last = last();
            if (last != NONE) {
                size--;
                set &= ~(1 << last);
            }
            return last;
        }

        void clear() {
            size = 0;
            set = 0;
        }

        void copy(Banquet other) {
            System.arraycopy(other.row, 0, row, 0, DISHES);
            size = other.size;
            set = other.set;
        }
    }

    /** A MENU: DISHES, and NONE for ? */
    private static final class Menu {
        private static final int LAST_HOUR = FIRST_HOUR + DISHES;
        private final int[] places;
        private final int[] free = new int[9];
        private int size;

        Menu(int most) {
            places = new int[most < 0 ? 0 : most];
        }

        int size() {
            return size;
        }

        int at(int p) {
            return p >= 0 && p < size && p < places.length ? places[p] : NONE;
        }

        boolean isKnown() {
            for (int p = 0; p < size; p++) {
                if (at(p) == NONE) {
                    return false;
                }
            }
            return true;
        }

        void clear() {
            size = 0;
        }

        void addAll(Menu other) {
            for (int p = 0; p < other.size; p++) {
                if (size < places.length) {
                    places[size] = other.at(p);
                    size++;
                }
            }
        }

        int read(Text text, int dishes) {
            int length = text.length();
            for (int p = 0; p < length; p++) {
                int sign = text.at(p, DISHES);
                if (sign != '?' && (sign < 'A' || sign >= 'A' + dishes)) {
                    return -1 - p;
                }
            }
            size = 0;
            for (int p = 0; p < length && p < places.length; p++) {
                int sign = text.at(p, DISHES);
                places[p] = sign == '?' ? NONE : sign - 'A';
                size++;
            }
            return size;
        }

        boolean exchange(int j, int k) {
            if (j < 0 || j >= size || k < 0 || k >= size || j == k) {
                return false;
            }
            int was = at(j);
            put(j, at(k));
            put(k, was);
            return true;
        }

        void reverse() {
            for (int p = 0; p < size / 2; p++) {
                exchange(p, size - 1 - p);
            }
        }

        private void put(int p, int dish) {
            if (p >= 0 && p < places.length) {
                places[p] = dish;
            }
        }

        /** The first place that is not lawful, or NONE. */
        int fault(Larder larder, Law law) {
            for (int p = 0; p < size; p++) {
                if (whyAt(p, larder, law) != 0) {
                    return p;
                }
            }
            return NONE;
        }

        int whyAt(int place, Larder larder, Law law) {
            if (place < 0 || place >= size) {
                return 0;
            }
            int dish = at(place);
            return dish == NONE ? NONE : law.refusal(larder, setTill(place), at(place - 1), dish);
        }

        private int setTill(int place) {
            int set = 0;
            for (int p = 0; p < place; p++) {
                set |= at(p) == NONE ? 0 : 1 << at(p);
            }
            return set;
        }

        int costTill(int place, Larder larder) {
            int sum = 0;
            for (int p = 0; p < place; p++) {
                sum += larder.costOf(at(p));
            }
            return sum;
        }

        /** GUESTS that went HUNGRY ahead of a place. */
        int hungryTill(int place, Larder larder) {
            int bits = 0;
            for (int p = 0; p < place; p++) {
                bits |= larder.hungryAt(at(p));
            }
            return bits;
        }

        /** The most DISHES that are on hearths at once. */
        int mostAtOnce(Larder larder) {
            int most = 0;
            for (int hour = 0; hour < LAST_HOUR; hour++) {
                int cooking = 0;
                for (int p = 0; p < size; p++) {
                    int ready = FIRST_HOUR + p;
                    cooking += ready - larder.hoursOf(at(p)) <= hour && hour < ready ? 1 : 0;
                }
                most = Math.max(most, cooking);
            }
            return most;
        }

        /** By how many hours the DISHES come too late from some hearths; when each is ready. */
        int cook(Larder larder, int hearths, Row ready) {
            Arrays.fill(free, 0);
            int late = 0;
            for (int p = 0; p < size; p++) {
                int next = 0;
                for (int h = 1; h < hearths && h < free.length; h++) {
                    next = free[h] < free[next] ? h : next;
                }
                free[next] += larder.hoursOf(at(p));
                ready.add(free[next]);
                late = Math.max(late, free[next] - FIRST_HOUR - p);
            }
            return late;
        }

        /** Places (bits) of which a GUEST eats. */
        int placesEaten(Larder larder, int guest) {
            int bits = 0;
            for (int p = 0; p < size; p++) {
                bits |= larder.isHungry(guest, at(p)) ? 0 : 1 << p;
            }
            return bits;
        }

        int stuffsEaten(Larder larder, int guest) {
            int bits = 0;
            for (int p = 0; p < size; p++) {
                bits |= larder.isHungry(guest, at(p)) ? 0 : larder.stuffsOf(at(p));
            }
            return bits;
        }
    }

    /**
     * Which DISHES can follow on which. All that the law asks of a DISH hangs on the set of those ahead
     * of it and on the last of them, so rows are told apart by these two alone.
     */
    private static final class Steps {
        private final boolean[] fits = new boolean[SETS];
        private final int[] ends = new int[SETS];
        private final int[] near = new int[LASTS];
        private final int[] allowed = new int[DISHES];
        private final int[] holders = new int[STUFFS];
        private final int[] most = new int[STUFFS];
        private int dishes;
        private int hot;
        private boolean hotStaysHot;
        private int from;
        private int start;

        void learn(Larder larder, Law law) {
            dishes = larder.dishes();
            hot = larder.hotDishes();
            hotStaysHot = law.heat() == 1;
            for (int d = 0; d < dishes; d++) {
                near[d] = larder.sharing(d, law.share()) | 1 << EDGE;
                if (law.heat() == 2) {
                    near[d] &= (hot >> d & 1) == 1 ? ~hot : hot | 1 << EDGE;
                }
            }
            near[EDGE] = ANY_END;
            for (int s = 0; s < STUFFS; s++) {
                holders[s] = larder.holdersOf(s);
                most[s] = law.most(s);
            }
            fits[0] = true;
            for (int set = 1; set < sets(); set++) {
                fits[set] = fits[set & set - 1] && isStocked(set);
            }
        }

        private boolean isStocked(int set) {
            for (int s = 0; s < STUFFS; s++) {
                if (Integer.bitCount(holders[s] & set) > most[s]) {
                    return false;
                }
            }
            return true;
        }

        void begin(int served, int last, int bits) {
            from = served;
            start = last == NONE ? EDGE : last;
            Arrays.fill(allowed, bits);
        }

        /** Leaves of the DISHES that can come at a place (counted from where it goes on) only some. */
        void allow(int place, int bits) {
            if (place >= 0 && place < allowed.length) {
                allowed[place] = bits;
            }
        }

        int dishes() {
            return dishes;
        }

        int sets() {
            return 1 << dishes;
        }

        int from() {
            return from;
        }

        int start() {
            return start;
        }

        int hot() {
            return hot;
        }

        boolean isHotToStay() {
            return hotStaysHot;
        }

        int near(int dish) {
            return dish >= 0 && dish < near.length ? near[dish] : 0;
        }

        boolean fits(int set) {
            return set >= 0 && set < SETS && fits[set];
        }

        /** With which DISHES the rows over a set can end (EDGE: with none); 0: there is no such row. */
        int ends(int set) {
            return set >= 0 && set < SETS ? ends[set] : 0;
        }

        int more(int set) {
            return Integer.bitCount(set) - Integer.bitCount(from);
        }

        /** DISHES that can come behind a set, whichever is its last. */
        int open(int set) {
            int place = more(set);
            if (place < 0 || place >= allowed.length) {
                return 0;
            }
            int bits = allowed[place] & ~set;
            if (hotStaysHot && (set & hot) != 0) {
                bits &= hot;
            }
            int open = 0;
            for (int d = 0; d < dishes; d++) {
                if ((bits >> d & 1) == 1 && fits[set & ALL_DISHES | 1 << d]) {
                    open |= 1 << d;
                }
            }
            return open;
        }

        /** Finds the rows that can be, from the first DISH further on. */
        void reach() {
            Arrays.fill(ends, 0);
            if (from < 0 || from >= sets()) {
                return;
            }
            ends[from] = 1 << start;
            for (int set = from; set < sets(); set++) {
                int open = ends[set] == 0 ? 0 : open(set);
                for (int d = 0; d < dishes; d++) {
                    if ((open >> d & 1) == 1 && (ends[set] & near[d]) != 0) {
                        ends[set | 1 << d] |= 1 << d;
                    }
                }
            }
        }

        /** DISHES that are in rows of more than so many. */
        int inSetsAbove(int n) {
            int bits = 0;
            for (int set = 0; set < sets(); set++) {
                bits |= ends[set] != 0 && Integer.bitCount(set) > n ? set : 0;
            }
            return bits;
        }
    }

    /** Seeks the rows with which it goes best by some weights of DISHES, of them the least one. */
    private static final class Plan {
        private final int[][] weights = new int[GUESTS][DISHES];
        private final int[] goals = new int[SETS];
        private final int[] costs = new int[DISHES];
        private final int[] follow = new int[DISHES];
        private int lines;
        private int lasts;
        private int purse;
        private int more;

        void begin() {
            lines = 0;
            lasts = ANY_END;
            purse = MOST_PURSE;
            Arrays.fill(costs, 0);
        }

        /** What a set is worth is the least of its lines' sums. */
        void addLine() {
            lines += lines < GUESTS ? 1 : 0;
        }

        void weigh(int dish, int weight) {
            if (lines > 0 && dish >= 0 && dish < DISHES) {
                weights[lines - 1][dish] = weight;
            }
        }

        void weighAll(Larder larder, int weight) {
            addLine();
            for (int d = 0; d < larder.dishes(); d++) {
                weigh(d, weight);
            }
        }

        void endWith(int dishes) {
            lasts = dishes;
        }

        void limit(Larder larder, int most) {
            purse = most;
            for (int d = 0; d < DISHES; d++) {
                costs[d] = larder.costOf(d);
            }
        }

        /** The greatest worth of rows of some lengths, IMPOSSIBLE if there are none. */
        int greatest(Steps steps, int least, int most) {
            int greatest = IMPOSSIBLE;
            for (int set = steps.from(); set < steps.sets(); set++) {
                if (isGoal(steps, set, least, most)) {
                    greatest = Math.max(greatest, worth(steps, set));
                }
            }
            return greatest;
        }

        /** Marks the rows of the greatest worth, which it tells. */
        int seek(Steps steps, int least, int most) {
            int greatest = greatest(steps, least, most);
            Arrays.fill(goals, 0);
            more = 0;
            if (greatest == IMPOSSIBLE) {
                return greatest;
            }
            for (int set = steps.from(); set < steps.sets() && set < SETS; set++) {
                if (set >= 0 && isGoal(steps, set, least, most) && worth(steps, set) == greatest) {
                    goals[set] = steps.ends(set) & lasts;
                    more = steps.more(set);
                }
            }
            lead(steps);
            return greatest;
        }

        private boolean isGoal(Steps steps, int set, int least, int most) {
            return (steps.ends(set) & lasts) != 0 && steps.more(set) >= least && steps.more(set) <= most
                    && (purse == MOST_PURSE || sum(costs, set & ~steps.from()) <= purse);
        }

        private int worth(Steps steps, int set) {
            int least = -IMPOSSIBLE;
            for (int k = 0; k < lines && k < GUESTS; k++) {
                least = Math.min(least, sum(weights[k], set & ~steps.from()));
            }
            return least;
        }

        private static int sum(int[] numbers, int set) {
            int sum = 0;
            for (int d = 0; d < numbers.length; d++) {
                sum += (set >> d & 1) * numbers[d];
            }
            return sum;
        }

        /** Marks also what leads to a goal. All goals are equally long, so none leads to another. */
        private void lead(Steps steps) {
            for (int set = Math.min(steps.sets(), SETS) - 1; set >= 0 && set >= steps.from(); set--) {
                int open = steps.ends(set) == 0 ? 0 : steps.open(set);
                for (int d = 0; d < steps.dishes(); d++) {
                    if ((open >> d & 1) == 1 && isMarked(set | 1 << d, d)) {
                        goals[set] |= steps.ends(set) & steps.near(d);
                    }
                }
            }
        }

        private boolean isMarked(int set, int last) {
            return set >= 0 && set < SETS && (goals[set] >> last & 1) == 1;
        }

        /** Tells the least of the rows marked. */
        void tell(Steps steps, Row row) {
            int set = steps.from();
            int last = steps.start();
            for (int k = 0; k < more; k++) {
                int next = steps.open(set) & steps.near(last);
                int dish = 0;
                while (dish < DISHES && ((next >> dish & 1) == 0 || !isMarked(set | 1 << dish, dish))) {
                    dish++;
                }
                row.add(dish);
                set |= 1 << dish;
                last = dish;
            }
        }

        /** DISHES that are at a place of some row marked. */
        int possibleAt(Steps steps, int place) {
            int bits = 0;
            for (int set = 0; set < steps.sets() && set < SETS; set++) {
                bits |= steps.more(set) == place + 1 ? goals[set] : 0;
            }
            return bits;
        }

        /**
         * The fewest STUFFS of a cold DISH with which all can be one row, NONE if there are none. If all
         * can't be a row without it, it stands between two DISHES; which two these can be is what counts.
         */
        int joiningStuffs(Steps steps, Larder larder, Law law) {
            int all = larder.all();
            if (steps.ends(all) != 0) {
                return 0;
            }
            if (!steps.fits(all)) {
                return NONE;
            }
            findBeginnings(steps);
            findGaps(steps, all);
            for (int size = 1; size <= STUFFS; size++) {
                for (int stuffs = 1; stuffs <= ALL_STUFFS; stuffs++) {
                    if (Integer.bitCount(stuffs) == size && joins(stuffs, larder, law)) {
                        return stuffs;
                    }
                }
            }
            return NONE;
        }

        /** Puts into goals with which DISHES lawful rows over a set can begin. */
        private void findBeginnings(Steps steps) {
            Arrays.fill(goals, 0);
            goals[0] = 1 << EDGE;
            for (int set = 1; set < steps.sets() && set < SETS; set++) {
                for (int d = 0; d < steps.dishes(); d++) {
                    int rest = set & ~(1 << d);
                    boolean fine = rest != set && (goals[rest] & steps.near(d)) != 0;
                    if (fine && !isHeatLost(steps, d, rest)) {
                        goals[set] |= 1 << d;
                    }
                }
            }
        }

        private static boolean isHeatLost(Steps steps, int dish, int rest) {
            return steps.isHotToStay() && (steps.hot() >> dish & 1) == 1 && (rest & ~steps.hot()) != 0;
        }

        /** Finds for each DISH ahead of the gap which can be behind it, if a cold one comes between. */
        private void findGaps(Steps steps, int all) {
            Arrays.fill(follow, 0);
            for (int set = 0; set <= all && set < SETS; set++) {
                boolean tooHot = steps.isHotToStay() && (set & steps.hot()) != 0;
                for (int last = 0; last < DISHES && !tooHot; last++) {
                    if ((steps.ends(set) >> last & 1) == 1) {
                        follow[last] |= goals[all & ~set];
                    }
                }
            }
        }

        private boolean joins(int stuffs, Larder larder, Law law) {
            for (int s = 0; s < STUFFS; s++) {
                int uses = Integer.bitCount(larder.holdersOf(s)) + (stuffs >> s & 1);
                if (uses > law.most(s)) {
                    return false;
                }
            }
            int beside = larder.holdersOfSome(stuffs, law.share());
            beside &= law.heat() == 2 ? larder.hotDishes() : ALL_DISHES;
            for (int last = 0; last < DISHES; last++) {
                if ((beside >> last & 1) == 1 && (follow[last] & beside) != 0) {
                    return true;
                }
            }
            return false;
        }
    }

    /** What hangs on each set and its last DISH: how many rows, how two cooks play, how few are changed. */
    private static final class Match {
        private static final int FAR = 100;
        private final int[] values = new int[SETS * LASTS];
        private final int[] joys = new int[DISHES];

        private int value(int set, int last) {
            int i = set * LASTS + last;
            return i >= 0 && i < values.length ? values[i] : 0;
        }

        private void setValue(int set, int last, int v) {
            int i = set * LASTS + last;
            if (i >= 0 && i < values.length) {
                values[i] = v;
            }
        }

        /** How many rows of just so many more DISHES there are. */
        long countRows(Steps steps, int more) {
            long rows = 0;
            setValue(steps.from(), steps.start(), 1);
            for (int set = steps.from(); set < steps.sets(); set++) {
                if (steps.ends(set) == 0 || steps.more(set) > more) {
                    continue;
                }
                if (steps.more(set) == more) {
                    rows += countWith(set, steps.ends(set));
                } else {
                    countOn(steps, set);
                }
            }
            return rows;
        }

        /** A set and its last DISH come from one set alone, so what is put there is all of it. */
        private void countOn(Steps steps, int set) {
            int open = steps.open(set);
            for (int d = 0; d < steps.dishes(); d++) {
                if ((open >> d & 1) == 1) {
                    setValue(set | 1 << d, d, countWith(set, steps.ends(set) & steps.near(d)));
                }
            }
        }

        private int countWith(int set, int lasts) {
            int rows = 0;
            for (int last = 0; last < LASTS; last++) {
                rows += (lasts >> last & 1) == 1 ? value(set, last) : 0;
            }
            return rows;
        }

        int mending(Steps steps, Menu menu, Row row) {
            for (int set = steps.sets() - 1; set >= 0; set--) {
                int open = steps.open(set);
                for (int last = 0; last < LASTS; last++) {
                    if ((steps.ends(set) >> last & 1) == 1) {
                        setValue(set, last, fewestChanges(set, open & steps.near(last), menu));
                    }
                }
            }
            int fewest = value(0, EDGE);
            if (fewest >= FAR) {
                return -2;
            }
            tellMended(steps, menu, row);
            return fewest;
        }

        private int fewestChanges(int set, int next, Menu menu) {
            if (Integer.bitCount(set) >= menu.size()) {
                return 0;
            }
            int fewest = FAR;
            for (int d = 0; d < DISHES; d++) {
                if ((next >> d & 1) == 1) {
                    fewest = Math.min(fewest, changesWith(set, d, menu));
                }
            }
            return fewest;
        }

        private int changesWith(int set, int dish, Menu menu) {
            int changed = menu.at(Integer.bitCount(set)) == dish ? 0 : 1;
            return value(set | 1 << dish, dish) + changed;
        }

        private void tellMended(Steps steps, Menu menu, Row row) {
            row.clear();
            int set = 0;
            int last = EDGE;
            for (int p = 0; p < menu.size(); p++) {
                int next = steps.open(set) & steps.near(last);
                int dish = 0;
                while (dish < DISHES
                        && ((next >> dish & 1) == 0 || changesWith(set, dish, menu) != value(set, last))) {
                    dish++;
                }
                row.add(dish);
                set |= 1 << dish;
                last = dish;
            }
        }

        /**
         * A position is worth to who is on turn: if the other one is shamed, the more the fewer are served
         * in the end; else the less the fewer. So each takes what is worth least to the other one.
         */
        int playBoth(Steps steps, Row row) {
            for (int set = steps.sets() - 1; set >= steps.from(); set--) {
                int open = steps.open(set);
                for (int last = 0; last < LASTS; last++) {
                    if ((steps.ends(set) >> last & 1) == 1) {
                        int next = open & steps.near(last);
                        int dish = leastFor(set, next);
                        setValue(set, last, dish == NONE ? steps.more(set) - FAR : -value(set | 1 << dish, dish));
                    }
                }
            }
            int set = steps.from();
            int worth = value(set, steps.start());
            row.clear();
            row.add(worth > 0 ? leastFor(set, steps.open(set) & steps.near(steps.start())) : NONE);
            row.add(FAR - Math.abs(worth));
            return worth > 0 ? 1 : 0;
        }

        /** Worth is here what it is to the other one, whoever is on turn; the first one has no choice. */
        int playGreedy(Steps steps, Larder larder, Taste taste, Row row) {
            for (int d = 0; d < joys.length; d++) {
                joys[d] = taste.ofAll(larder, d);
            }
            for (int set = steps.sets() - 1; set >= steps.from(); set--) {
                int open = steps.open(set);
                for (int last = 0; last < LASTS; last++) {
                    if ((steps.ends(set) >> last & 1) == 1) {
                        setValue(set, last, worthToOther(set, open & steps.near(last), steps.more(set)));
                    }
                }
            }
            int worth = value(steps.from(), steps.start());
            row.clear();
            row.add(FAR - Math.abs(worth));
            return worth > 0 ? 1 : 0;
        }

        private int worthToOther(int set, int next, int more) {
            boolean greedy = more % 2 == 0;
            if (next == 0) {
                return greedy ? FAR - more : more - FAR;
            }
            if (greedy) {
                int dish = mostJoyful(next);
                return value(set | 1 << dish, dish);
            }
            int most = -FAR;
            for (int d = 0; d < DISHES; d++) {
                if ((next >> d & 1) == 1) {
                    most = Math.max(most, value(set | 1 << d, d));
                }
            }
            return most;
        }

        private int mostJoyful(int next) {
            int dish = 0;
            for (int d = 0; d < joys.length; d++) {
                boolean isFirst = (next >> dish & 1) == 0;
                if ((next >> d & 1) == 1 && (isFirst || joys[d] > joys[dish])) {
                    dish = d;
                }
            }
            return dish;
        }

        /** The first DISH behind which it is worth least. */
        private int leastFor(int set, int next) {
            int least = NONE;
            for (int d = 0; d < DISHES; d++) {
                if ((next >> d & 1) == 1
                        && (least == NONE || value(set | 1 << d, d) < value(set | 1 << least, least))) {
                    least = d;
                }
            }
            return least;
        }
    }
}
