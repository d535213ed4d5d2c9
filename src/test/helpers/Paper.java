import java.io.IOException;
import java.nio.file.Files;
import java.nio.file.Path;
import java.util.ArrayList;
import java.util.LinkedHashMap;
import java.util.List;
import java.util.Map;

/** The document, and which of its words trials have quoted. Where it is missing, all words pass. */
final class Paper {
    static final String TERMS = "Terms";
    static final String WHAT = "What it is";
    private final Map<String, String> parts = new LinkedHashMap<>();
    private final Map<String, boolean[]> quoted = new LinkedHashMap<>();

    Paper(Path file) {
        for (String part : textOf(file).split("\n## ")) {
            String name = part.substring(0, part.indexOf('\n'));
            String body = part.substring(part.indexOf('\n'));
            if (name.startsWith("Promise ")) put(name.substring(0, name.indexOf(':')), body.replaceFirst("`[^`]*`: ", ""));
            if (name.equals(TERMS)) put(TERMS, body.replaceAll("\nAhead of the calls [^\n]*", "").replaceAll("```(text)?", "")
                    .replaceAll("\n[12]\\. ", "\n"));
            if (name.equals(WHAT)) put(WHAT, body.substring(body.indexOf("An object is used")));
        }
    }

    private static String textOf(Path file) {
        try {
            return Files.readString(file);
        } catch (IOException e) {
            System.out.println("no document at " + file + ": what trials quote is not looked up");
            return "none\n";
        }
    }

    private void put(String name, String body) {
        parts.put(name, body);
        quoted.put(name, new boolean[body.length()]);
    }

    static String promise(int n) {
        return "Promise " + n;
    }

    /** False if these words don't stand there. */
    boolean quote(String part, String words) {
        if (parts.isEmpty()) return true;
        String body = parts.getOrDefault(part, "");
        int at = body.indexOf(words);
        for (int k = at; at >= 0 && k < at + words.length(); k++) quoted.get(part)[k] = true;
        return at >= 0;
    }

    /** What no trial has quoted, of each part. */
    List<String> unquoted() {
        List<String> left = new ArrayList<>();
        for (String part : parts.keySet()) {
            StringBuilder words = new StringBuilder();
            for (int k = 0; k < parts.get(part).length(); k++) {
                boolean free = !quoted.get(part)[k];
                if (free) words.append(parts.get(part).charAt(k));
                if (!free || k == parts.get(part).length() - 1) {
                    if (words.toString().matches("(?s).*[A-Za-z0-9].*")) left.add(part + ": " + words.toString().trim());
                    words.setLength(0);
                }
            }
        }
        return left;
    }
}
