import java.util.NoSuchElementException;

/** A court to try things on: texts go in as texts, what is not as due is printed and counted. */
final class Court {
    static int wrong = 0;
    static int asked = 0;
    final NextMustShare x = new NextMustShare();
    private final String about;

    Court(String about) {
        this.about = about;
    }

    Court(String about, String kitchen) {
        this(about);
        due("lines of " + kitchen, kitchen(kitchen), kitchen.split(";").length);
    }

    void due(String call, long got, long want) {
        asked++;
        if (got != want) {
            wrong++;
            System.out.println(about + ": " + call + " answered " + got + ", due is " + want);
        }
    }

    void due(String call, boolean got, boolean want) {
        due(call, got ? 1 : 0, want ? 1 : 0);
    }

    void row(String call, int... want) {
        due(call + ": numbers of the row", x.count(5), want.length);
        for (int i = 0; i < want.length && i < x.count(5); i++) due(call + ": row(" + i + ")", x.row(i), want[i]);
    }

    void due(String call, long got, long want, int... row) {
        due(call, got, want);
        row(call, row);
    }

    interface Call {
        long ask();
    }

    void none(String call, Call asking) {
        boolean thrown = false;
        try {
            asking.ask();
        } catch (NoSuchElementException e) {
            thrown = true;
        }
        due(call + " throws NoSuchElementException", thrown, true);
    }

    void write(String text) {
        x.end(0);
        for (int p = 0; p < text.length(); p += 4) {
            int v = 0;
            for (int k = 0; k < 4; k++) v = v << 8 | (p + k < text.length() ? text.charAt(p + k) & 255 : 0);
            x.sign(v);
        }
        x.end(text.length());
    }

    int kitchen(String text) {
        write(text);
        return x.kitchen();
    }

    int rule(String text) {
        write(text);
        return x.rule();
    }

    int menu(int i, String text) {
        write(text);
        return x.menu(i);
    }

    void serve(int... dishes) {
        for (int d : dishes) {
            int served = x.count(2);
            due("serve(" + d + ")", x.serve(d), served + 1);
        }
    }

    static void endTests(String name) {
        System.out.println(name + ": " + (asked - wrong) + " answers as due, " + wrong + " not");
        if (wrong != 0) System.exit(1);
    }
}
