import java.io.IOException;
import java.lang.reflect.Field;
import java.lang.reflect.Method;
import java.lang.reflect.Modifier;
import java.nio.file.Files;
import java.nio.file.Path;
import java.util.ArrayList;
import java.util.List;
import java.util.Set;
import java.util.TreeSet;

/** The public face is the document's, and what of LANGUAGE.md can be seen by a test is kept to. */
public final class FaceTest {
    private static final String FACE = "int sign(int);boolean end(int);int kitchen();int rule();int dish(int,int);"
            + "int guest(int,int);int joy(int,int);int law(int,int);int store(int,int);int sheet(int,int,int,int);"
            + "int serve(int);int back();int over();int can();int menu(int);int look(int);boolean swap(int,int,int);"
            + "boolean turn(int);int joined(int,int);int falls(int,int,int);int longest();long ways(int);"
            + "int between(int,int);int shortest(int,int);int bears(int);int beside(int);int parts();int rare();"
            + "int round();int shut(int);int best(int,int);int fair(int,int);int cheap(int);int dear(int);int game();"
            + "int greedy();int mend(int,int);long fills(int);int sure(int,int);int hearths(int);int late(int,int);"
            + "int poison(int,int);int eats(int,int);int made();boolean keep(int);boolean again(int);int count(int);"
            + "int row(int)";
    private static final String[] FORBIDDEN = {"try", "catch", "finally", "synchronized", "assert", "instanceof",
        "protected", "var", "record", "float", "double", "volatile", "transient", "native", "String", "Object",
        "Exception", "System.out", "getClass", "hashCode", "toString"};
    private static int wrong = 0;
    private static int asked = 0;

    public static void main(String[] args) throws IOException {
        Set<String> names = checkFace();
        List<Class<?>> classes = new ArrayList<>(List.of(NextMustShare.class.getDeclaredClasses()));
        check(classes.size() <= 12, "classes inside: " + classes.size());
        for (Class<?> c : classes) {
            check(Modifier.isStatic(c.getModifiers()), c.getName() + " is not static");
            check(!Modifier.isPublic(c.getModifiers()), c.getName() + " is public");
            for (Method m : c.getDeclaredMethods()) check(!names.contains(m.getName()), "name of the face: " + m);
        }
        classes.add(NextMustShare.class);
        for (Class<?> c : classes) checkMembers(c);
        checkText(Files.readAllLines(Path.of("src/main/java/NextMustShare.java")));
        System.out.println("FaceTest: " + (asked - wrong) + " checks held, " + wrong + " not");
        if (wrong != 0) System.exit(1);
    }

    private static void check(boolean fine, String fault) {
        asked++;
        if (!fine) {
            wrong++;
            System.out.println(fault);
        }
    }

    private static Set<String> checkFace() {
        Set<String> due = new TreeSet<>(List.of(FACE.split(";")));
        Set<String> found = new TreeSet<>();
        Set<String> names = new TreeSet<>();
        for (Method m : NextMustShare.class.getDeclaredMethods()) {
            if (Modifier.isPrivate(m.getModifiers())) continue;
            StringBuilder s = new StringBuilder(m.getReturnType() + " " + m.getName() + "(");
            for (Class<?> p : m.getParameterTypes()) s.append(s.charAt(s.length() - 1) == '(' ? "" : ",").append(p);
            found.add(s.append(')').toString());
            names.add(m.getName());
            check(Modifier.isPublic(m.getModifiers()) && !Modifier.isStatic(m.getModifiers()), m.toString());
            boolean throwing = Set.of("dish", "guest", "joy", "row").contains(m.getName());
            check(m.getExceptionTypes().length == (throwing ? 1 : 0), "exceptions of " + m);
        }
        check(found.equals(due), "the face is " + found);
        for (Method m : NextMustShare.class.getDeclaredMethods()) {
            check(!Modifier.isPrivate(m.getModifiers()) || !names.contains(m.getName()), "private " + m);
        }
        check(NextMustShare.class.getDeclaredConstructors().length == 1, "constructors");
        check(Modifier.isFinal(NextMustShare.class.getModifiers()), "not final");
        return names;
    }

    private static void checkMembers(Class<?> c) {
        int fields = 0;
        for (Field f : c.getDeclaredFields()) {
            if (f.isSynthetic()) continue;
            boolean open = f.getName().equals("NONE") && c == NextMustShare.class;
            check(open || Modifier.isPrivate(f.getModifiers()), "not private: " + f);
            check(!Modifier.isStatic(f.getModifiers()) || Modifier.isFinal(f.getModifiers()), "not final: " + f);
            fields += Modifier.isStatic(f.getModifiers()) ? 0 : 1;
        }
        check(fields <= 20, c + " has " + fields + " fields");
        for (Method m : c.getDeclaredMethods()) check(m.getParameterCount() <= 7, "parameters: " + m);
    }

    private static void checkText(List<String> lines) {
        int start = 0;
        for (int k = 0; k < lines.size(); k++) {
            String line = lines.get(k);
            String code = line.trim();
            check(line.chars().allMatch(c -> c < 128), "line " + (k + 1) + ": a sign beyond 127");
            if (code.startsWith("*") || code.startsWith("/*") || code.startsWith("//")) continue;
            if (code.startsWith("import")) {
                check(code.matches("import java\\.util\\.(Arrays|NoSuchElementException);"), code);
                continue;
            }
            String bare = code.replace("NoSuchElementException", "");
            for (String word : FORBIDDEN) {
                check(!bare.matches(".*\\b" + word + "\\b.*"), "line " + (k + 1) + ": " + word);
            }
            check(!code.contains("->") && !code.contains("::") && !code.contains("\""), "line " + (k + 1) + ": " + code);
            if (code.matches(".*\\) (throws NoSuchElementException )?\\{") && !code.matches("(\\} else )?(if|for|while|switch).*")) {
                start = k;
            }
            check(k - start <= 60 || !line.matches(" {4,8}\\}"), "line " + (k + 1) + ": a long method");
            check(!code.matches("static \\{"), "a static block");
        }
    }
}
