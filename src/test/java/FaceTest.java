import java.io.IOException;
import java.lang.reflect.Constructor;
import java.lang.reflect.Field;
import java.lang.reflect.Method;
import java.lang.reflect.Modifier;
import java.nio.file.Files;
import java.nio.file.Path;
import java.util.TreeSet;
import java.util.regex.Matcher;
import java.util.regex.Pattern;

/** The public face is the document's and no more; the source keeps to what can be seen of LANGUAGE.md by its text. */
public final class FaceTest {
    private static final String[] METHODS = {
        "all(int)", "best(int,int,int,int)", "claim(int,int)", "come(int,int,int,int,boolean)", "could(int,int)",
        "day(int,int)", "fault()", "home(int,int,int)", "image(int)", "judge(int)", "law(int)", "left(int,int)",
        "lied()", "person(int,int)", "restore(int)", "say(int)", "served(int)", "set(int,int)", "stay(int)",
        "stays(int)", "told(int)", "two(int)", "waits(int,int)", "walk(int,int,int)", "wipe()",
    };
    private static final String[] RULED_OUT = {
        "import ", "package ", "->", "::", "try", "catch", "throw ", "synchronized", "assert", "double", "float",
        "Exact", "System.", "getClass", "hashCode", "\"", "finally", "static {", "while (true)", "for (;;)",
    };
    private static final Pattern OF_LIBRARY = Pattern.compile("\\b(Integer|Long|Math|Arrays)\\b(\\.\\w+\\()?");

    public static void main(String[] args) throws IOException {
        constants();
        constructors();
        methods();
        classesInside();
        text();
        library();
        lengths();
        Due.finish();
    }

    private static void constants() {
        Due.is("UNKNOWN", FarthestFirst.UNKNOWN, -1);
        Due.is("OUTSIDE", FarthestFirst.OUTSIDE, -2);
        Due.is("STATE", FarthestFirst.STATE, -3);
        Due.is("FULL", FarthestFirst.FULL, -4);
        Due.is("NO", FarthestFirst.NO, -5);
        Due.is("NONE", FarthestFirst.NONE, -6);
        TreeSet<String> open = new TreeSet<>();
        for (Field f : FarthestFirst.class.getDeclaredFields()) {
            if (!Modifier.isPrivate(f.getModifiers())) {
                open.add(f.getName());
                Due.is("modifiers of " + f.getName(), f.getModifiers(),
                    Modifier.PUBLIC | Modifier.STATIC | Modifier.FINAL);
            }
            if (Modifier.isStatic(f.getModifiers())) {
                Due.holds(f.getName() + " is final", Modifier.isFinal(f.getModifiers()));
            }
        }
        Due.holds("constants " + open, open.toString().equals("[FULL, NO, NONE, OUTSIDE, STATE, UNKNOWN]"));
    }

    private static void constructors() {
        Due.holds("the class is public", Modifier.isPublic(FarthestFirst.class.getModifiers()));
        Due.holds("the class is final", Modifier.isFinal(FarthestFirst.class.getModifiers()));
        Constructor<?>[] all = FarthestFirst.class.getDeclaredConstructors();
        Due.is("constructors", all.length, 1);
        Due.holds("the constructor is public", Modifier.isPublic(all[0].getModifiers()));
        Due.is("its parameters", all[0].getParameterCount(), 0);
    }

    private static void methods() {
        TreeSet<String> face = new TreeSet<>();
        TreeSet<String> faceNames = new TreeSet<>();
        TreeSet<String> otherNames = new TreeSet<>();
        for (Method m : FarthestFirst.class.getDeclaredMethods()) {
            if (Modifier.isPrivate(m.getModifiers()) || m.isSynthetic()) {
                otherNames.add(m.getName());
                continue;
            }
            Due.holds(m.getName() + " is public", Modifier.isPublic(m.getModifiers()));
            Due.holds(m.getName() + " is of an object", !Modifier.isStatic(m.getModifiers()));
            Due.holds(m.getName() + " answers an int", m.getReturnType() == int.class);
            StringBuilder told = new StringBuilder(m.getName()).append('(');
            for (Class<?> c : m.getParameterTypes()) {
                told.append(told.charAt(told.length() - 1) == '(' ? "" : ",").append(c.getName());
            }
            face.add(told.append(')').toString());
            faceNames.add(m.getName());
        }
        Due.holds("methods " + face, face.equals(new TreeSet<>(java.util.List.of(METHODS))));
        otherNames.retainAll(faceNames);
        Due.holds("private methods with a public name " + otherNames, otherNames.isEmpty());
    }

    /** Rules 1, 2, 5 and 11. */
    private static void classesInside() {
        Class<?>[] inside = FarthestFirst.class.getDeclaredClasses();
        Due.holds("some twelve classes at most, not " + inside.length, inside.length < 12);
        for (Class<?> c : inside) {
            Due.holds(c.getName() + " is static", Modifier.isStatic(c.getModifiers()));
            Due.holds(c.getName() + " is neither public nor protected",
                !Modifier.isPublic(c.getModifiers()) && !Modifier.isProtected(c.getModifiers()));
            int fields = 0;
            for (Field f : c.getDeclaredFields()) {
                boolean isStatic = Modifier.isStatic(f.getModifiers());
                fields += isStatic ? 0 : 1;
                Due.holds(f + " is no static state", !isStatic || Modifier.isFinal(f.getModifiers()));
            }
            Due.holds(c.getName() + " has some twenty fields at most", fields <= 20);
            for (Method m : c.getDeclaredMethods()) {
                Due.holds(m + " takes seven at most", m.getParameterCount() <= 7);
            }
        }
    }

    private static String source() throws IOException {
        return Files.readString(Path.of("src/main/java/FarthestFirst.java"));
    }

    private static String code() throws IOException {
        return source().replaceAll("(?s)/\\*.*?\\*/", "").replaceAll("//[^\n]*", "");
    }

    /** Rule 4: the static functions of Integer, Long and Math; no other name of theirs is listed. */
    private static void library() throws IOException {
        Matcher use = OF_LIBRARY.matcher(code());
        while (use.find()) {
            Due.holds(use.group() + " is a function", use.group(2) != null);
        }
    }

    /** Rule 11: methods stay short. One begins at a line that ends with ") {" and ends as far to the left. */
    private static void lengths() throws IOException {
        String[] lines = source().split("\n");
        for (int from = 0; from < lines.length; from++) {
            if (!lines[from].matches("( {4}| {8})(public|private|static|int|boolean|void)\\b.*\\) \\{")) {
                continue;
            }
            int to = from;
            while (!lines[to].equals(lines[from].replaceAll("\\S.*", "") + "}")) {
                to++;
            }
            Due.holds("some sixty lines at most: " + lines[from], to - from < 60);
        }
    }

    private static void text() throws IOException {
        String source = source();
        String code = code();
        for (String word : RULED_OUT) {
            Due.holds("the source has no " + word, !code.contains(word));
        }
        for (int i = 0; i < source.length(); i++) {
            if (source.charAt(i) > 126) {
                Due.holds("sign " + i + " of the source is plain", false);
            }
        }
    }
}
