import java.lang.reflect.Method;
import java.lang.reflect.Modifier;
import java.net.URL;
import java.net.URLClassLoader;
import java.nio.file.Files;
import java.nio.file.Path;
import java.util.NoSuchElementException;
import java.util.function.Supplier;
import java.util.regex.Matcher;
import java.util.regex.Pattern;

/** The code of README.md compiles, and its calls answer what stands behind them there. */
public final class ReadmeTest {
    private static final Pattern BLOCK = Pattern.compile("```java\n(.*?)```", Pattern.DOTALL);
    private static final Pattern CALL = Pattern.compile("(court\\..*);  // (.*)");
    private static final int FEWEST_CALLS = 40;
    private static int asked = 0;
    private static int wrong = 0;

    public static void main(String[] args) throws Exception {
        String page = Files.readString(Path.of("README.md"));
        for (Method m : NextMustShare.class.getDeclaredMethods()) {
            boolean open = Modifier.isPublic(m.getModifiers());
            check(!open || page.contains("`" + m.getName() + "`"), "README.md does not name " + m.getName());
        }
        Path folder = Files.createTempDirectory("readme");
        try {
            run(compile(codeOf(page), folder));
        } finally {
            for (String name : new String[] {"ReadmeCode.java", "ReadmeCode.class"}) {
                Files.deleteIfExists(folder.resolve(name));
            }
            Files.deleteIfExists(folder);
        }
        check(asked >= FEWEST_CALLS, "README.md shows only " + asked + " calls");
        System.out.println("ReadmeTest: " + (asked - wrong) + " checks held, " + wrong + " not");
        if (wrong != 0) System.exit(1);
    }

    private static void check(boolean fine, String fault) {
        asked++;
        if (fine) return;
        wrong++;
        System.out.println(fault);
    }

    /** All calls of the page go to one court, one behind the other. */
    private static String codeOf(String page) {
        StringBuilder helpers = new StringBuilder();
        StringBuilder calls = new StringBuilder();
        Matcher blocks = BLOCK.matcher(page);
        while (blocks.find()) {
            if (blocks.group(1).startsWith("static")) helpers.append(blocks.group(1));
            else for (String line : blocks.group(1).split("\n")) calls.append(codeOfLine(line)).append('\n');
        }
        return "public final class ReadmeCode {\n" + helpers
                + "public static void run() {\nNextMustShare court = new NextMustShare();\n" + calls + "}\n}\n";
    }

    private static String codeOfLine(String line) {
        Matcher call = CALL.matcher(line);
        if (!call.matches()) {
            check(line.startsWith("write("), "what does this line answer: " + line);
            return line;
        }
        String shown = call.group(1).replace("\"", "\\\"");
        return "ReadmeTest.due(court, \"" + shown + "\", () -> \"\" + " + call.group(1) + ", \"" + call.group(2) + "\");";
    }

    private static Path compile(String code, Path folder) throws Exception {
        Path file = folder.resolve("ReadmeCode.java");
        Files.writeString(file, code);
        int fault = new ProcessBuilder("javac", "--release", "17", "-encoding", "UTF-8", "-cp",
                System.getProperty("java.class.path"), "-d", folder.toString(), file.toString())
                .inheritIO().start().waitFor();
        check(fault == 0, "the code of README.md does not compile");
        return folder;
    }

    private static void run(Path folder) throws Exception {
        URL[] places = {folder.toUri().toURL()};
        try (URLClassLoader loader = new URLClassLoader(places, ReadmeTest.class.getClassLoader())) {
            if (wrong == 0) loader.loadClass("ReadmeCode").getMethod("run").invoke(null);
        }
    }

    /** Of a call behind which no ROW stands the ROW is not looked at. */
    public static void due(NextMustShare court, String call, Supplier<String> asking, String want) {
        String got;
        try {
            got = asking.get();
        } catch (NoSuchElementException e) {
            got = "NoSuchElementException";
        }
        got += want.contains("ROW") ? ", ROW" + rowOf(court) : "";
        check(got.equals(want), "README.md: " + call + " answers " + got + ", there stands " + want);
    }

    private static String rowOf(NextMustShare court) {
        StringBuilder row = new StringBuilder();
        for (int i = 0; i < court.count(5); i++) row.append(' ').append(court.row(i));
        return row.toString();
    }
}
