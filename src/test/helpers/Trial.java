import java.lang.reflect.InvocationTargetException;
import java.lang.reflect.Method;
import java.nio.file.Path;
import java.util.ArrayList;
import java.util.HashMap;
import java.util.List;
import java.util.Map;
import java.util.NoSuchElementException;

/**
 * A trial of one sentence of the document, whose words it quotes. All calls go to two courts but those that
 * have to be refused, which go to one alone: at the end both have to be the same in all that can be told.
 */
final class Trial {
    private static final int MOST_CALLS = 512;
    /** What a call answers here that threw the exception of the document. */
    private static final long THROWN = Long.MIN_VALUE;
    private static final Paper PAPER = new Paper(Path.of("../shared/DOC.md"));
    private static final Map<String, Method> FACE = new HashMap<>();
    private static Trial open = null;
    private static int trials = 0;
    private static int checks = 0;
    private static int wrong = 0;

    static {
        for (Method m : NextMustShare.class.getMethods()) FACE.put(m.getName(), m);
    }

    private final String about;
    private final NextMustShare mine = new NextMustShare();
    private final NextMustShare twin = new NextMustShare();
    private boolean refused = false;
    private int calls = 0;

    private Trial(String part, String... words) {
        about = part + ", " + String.join(" .. ", words);
        trials++;
        for (String w : words) check(PAPER.quote(part, w), "the document has these words");
    }

    static Trial of(int promise, String... words) {
        return begin(new Trial(Paper.promise(promise), words));
    }

    static Trial ofTerms(String... words) {
        return begin(new Trial(Paper.TERMS, words));
    }

    static Trial ofUse(String... words) {
        return begin(new Trial(Paper.WHAT, words));
    }

    private static Trial begin(Trial next) {
        endLast();
        open = next;
        return next;
    }

    private static void endLast() {
        if (open == null) return;
        if (open.refused) open.compareAll();
        open.check(open.calls <= MOST_CALLS, open.calls + " calls, more than an object is used for");
        open = null;
    }

    static void endAll(String name) {
        endLast();
        for (String words : PAPER.unquoted()) {
            wrong++;
            System.out.println("no trial of: " + words);
        }
        System.out.println(name + ": " + trials + " trials, " + (checks - wrong) + " checks held, " + wrong + " not");
        if (wrong != 0) System.exit(1);
    }

    private void check(boolean fine, String what) {
        checks++;
        if (fine) return;
        wrong++;
        System.out.println(about + ": " + what);
    }

    private long on(NextMustShare x, String call) {
        if (x == mine) calls++;
        String name = call.substring(0, call.indexOf('('));
        String told = call.substring(call.indexOf('(') + 1, call.length() - 1);
        String[] parts = told.isEmpty() ? new String[0] : told.split(", ");
        Object[] numbers = new Object[parts.length];
        for (int k = 0; k < parts.length; k++) numbers[k] = Integer.parseInt(parts[k]);
        try {
            Object answer = FACE.get(name).invoke(x, numbers);
            return answer instanceof Boolean ? (Boolean) answer ? 1 : 0 : ((Number) answer).longValue();
        } catch (InvocationTargetException e) {
            if (e.getCause().getClass() == NoSuchElementException.class) return THROWN;
            throw new IllegalStateException(about + ": " + call + " threw " + e.getCause());
        } catch (IllegalAccessException e) {
            throw new IllegalStateException(e);
        }
    }

    private static String shown(long v) {
        return v == THROWN ? "NoSuchElementException" : "" + v;
    }

    private void due(String call, long got, long want) {
        check(got == want, call + " answered " + shown(got) + ", due is " + shown(want));
    }

    private List<Long> rowOf(NextMustShare x) {
        List<Long> row = new ArrayList<>();
        long size = on(x, "count(5)");
        for (int i = 0; i < size; i++) row.add(on(x, "row(" + i + ")"));
        return row;
    }

    int calls() {
        return calls;
    }

    /** The last call was the last of those that an object is used for. */
    void isSpent() {
        check(calls == MOST_CALLS, calls + " calls, not as many as an object is used for");
    }

    /** A call that is no refusal, of what it answers. */
    Trial ask(String call, long want) {
        due(call, on(mine, call), want);
        due(call + " of one that was never refused", on(twin, call), want);
        return this;
    }

    /** A call that tells the ROW. */
    Trial tell(String call, long want, long... row) {
        ask(call, want);
        return row(row);
    }

    /** The ROW, as it is. */
    Trial row(long... want) {
        List<Long> due = new ArrayList<>();
        for (long v : want) due.add(v);
        List<Long> got = rowOf(mine);
        check(got.equals(due), "the row is " + got + ", due is " + due);
        return this;
    }

    /** A call that is refused, or leaves all as it is. */
    Trial refuse(String call, long want) {
        refused = true;
        due(call, on(mine, call), want);
        List<Long> got = rowOf(mine), due = rowOf(twin);
        check(got.equals(due), call + " left the row " + got + ", due is " + due);
        return this;
    }

    /** A call that changes something, but not the ROW. */
    Trial leaveRow(String call, long want) {
        List<Long> due = rowOf(mine);
        ask(call, want);
        List<Long> got = rowOf(mine);
        check(got.equals(due), call + " left the row " + got + ", due is " + due);
        return this;
    }

    Trial none(String call) {
        return refuse(call, THROWN);
    }

    /** Each number that is none of lo .. hi, put for the star, is refused. */
    Trial outside(String call, long want, int lo, int hi) {
        int[] strange = {lo - 1, hi + 1, Integer.MIN_VALUE, Integer.MAX_VALUE, lo + 32, lo - 32, lo + 256, lo + 65536};
        for (int v : strange) {
            if (v < lo || v > hi) refuse(call.replace("*", "" + v), want);
        }
        return this;
    }

    Trial noneOutside(String call, int lo, int hi) {
        return outside(call, THROWN, lo, hi);
    }

    /** The TEXT is then this one. */
    Trial write(String text) {
        for (NextMustShare x : new NextMustShare[] {mine, twin}) {
            on(x, "end(0)");
            for (int p = 0; p < text.length(); p += 4) {
                int v = 0;
                for (int k = 0; k < 4; k++) v = v << 8 | (p + k < text.length() ? text.charAt(p + k) & 255 : 0);
                on(x, "sign(" + v + ")");
            }
            on(x, "end(" + text.length() + ")");
        }
        due("signs of " + text, on(mine, "count(6)"), text.length());
        return this;
    }

    /** A text that is read: kitchen(), rule(), menu(i). */
    Trial read(String call, String text, long want) {
        write(text).ask(call, want);
        due("signs behind " + call, on(mine, "count(6)"), 0);
        return this;
    }

    /** A text that can't be: its sign at a place can't stand there, the TEXT is empty, nothing else changes. */
    Trial fault(String call, String text, int place) {
        return unread(call, text, -1 - place);
    }

    Trial unread(String call, String text, long want) {
        write(text);
        refuse(call, want);
        due("signs behind " + call + " of " + text, on(mine, "count(6)"), 0);
        on(twin, "end(0)");
        return this;
    }

    /** Lines of any number, in as many texts as they need. */
    Trial kitchen(String lines) {
        String text = "";
        for (String line : lines.split(";")) {
            if (text.length() + 1 + line.length() > 76) {
                read("kitchen()", text, text.split(";").length);
                text = "";
            }
            text += (text.isEmpty() ? "" : ";") + line;
        }
        return read("kitchen()", text, text.split(";").length);
    }

    Trial menu(int i, String text) {
        return read("menu(" + i + ")", text, text.length());
    }

    Trial serve(int... dishes) {
        for (int d : dishes) {
            long served = on(mine, "count(2)");
            ask("serve(" + d + ")", served + 1);
        }
        return this;
    }

    /** The numbers of dishes in a menu that has no hole, told by HOURS: kitchens for it have unlike ones. */
    Trial menuHours(int i, long... hours) {
        on(mine, "hearths(" + i + ")");
        on(twin, "hearths(" + i + ")");
        List<Long> got = rowOf(mine), due = new ArrayList<>();
        for (int k = 0; k < got.size(); k++) got.set(k, 10 + k - got.get(k));
        for (long h : hours) due.add(h);
        check(got.equals(due), "menu " + i + " has dishes of hours " + got + ", due is " + due);
        return this;
    }

    // ---- all that can be told

    private void compareAll() {
        List<String> got = all(mine), due = all(twin);
        for (int k = 0; k < got.size() && k < due.size(); k++) {
            if (!got.get(k).equals(due.get(k))) {
                check(false, "behind what was refused: " + got.get(k) + ", due is " + due.get(k));
                return;
            }
        }
        check(got.size() == due.size(), "behind what was refused more or less can be told");
    }

    private List<String> all(NextMustShare x) {
        List<String> told = new ArrayList<>();
        told.add("row " + rowOf(x));
        for (int what = 0; what < 8; what++) tellInto(told, x, "count(" + what + ")");
        long dishes = on(x, "count(0)"), guests = on(x, "count(1)");
        for (int d = 0; d < dishes; d++) for (int what = 0; what < 5; what++) tellInto(told, x, "dish(" + d + ", " + what + ")");
        for (int g = 0; g < guests; g++) for (int what = 0; what < 2; what++) tellInto(told, x, "guest(" + g + ", " + what + ")");
        for (int g = 0; g < guests && dishes > 0; g++) tellInto(told, x, "joy(" + g + ", " + (dishes - 1) + ")");
        for (int i = 0; i < 3; i++) tellMenu(told, x, i);
        tellInto(told, x, "menu(2)");
        tellMenu(told, x, 2);
        tellTable(told, x);
        for (int i = 0; i < 2; i++) {
            tellInto(told, x, "again(" + i + ")");
            tellTable(told, x);
        }
        return told;
    }

    private void tellInto(List<String> told, NextMustShare x, String call) {
        told.add(call + " " + shown(on(x, call)));
    }

    private void tellMenu(List<String> told, NextMustShare x, int i) {
        for (String call : new String[] {"hearths(" + i + ")", "turn(" + i + ")", "look(" + i + ")"}) {
            tellInto(told, x, call);
            told.add("row " + rowOf(x));
        }
        tellInto(told, x, "sure(" + i + ", 9)");
    }

    private void tellTable(List<String> told, NextMustShare x) {
        for (int what = 0; what < 3; what++) tellInto(told, x, "law(" + what + ", 1)");
        for (int s = 0; s < 8; s++) tellInto(told, x, "store(" + s + ", 9)");
        for (int k = 0; k < 10 && on(x, "count(2)") > 0; k++) tellInto(told, x, "back()");
    }
}
