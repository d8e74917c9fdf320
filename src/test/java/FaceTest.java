import java.io.IOException;
import java.lang.reflect.Constructor;
import java.lang.reflect.Field;
import java.lang.reflect.Method;
import java.lang.reflect.Modifier;
import java.nio.file.Files;
import java.nio.file.Path;
import java.util.TreeSet;

/** The public face is the document's and no more; the source keeps to what can be seen of LANGUAGE.md by its text. */
public final class FaceTest {
    private static final String[] METHODS = {
        "all(int)", "best(int,int,int,int)", "claim(int,int)", "come(int,int,int,int,boolean)", "could(int,int)",
        "day(int,int)", "fault()", "home(int,int,int)", "image(int)", "judge(int)", "law(int)", "left(int,int)",
        "lied()", "person(int,int)", "restore(int)", "say(int)", "served(int)", "set(int,int)", "stay(int)",
        "stays(int)", "told(int)", "two(int)", "waits(int,int)", "walk(int,int,int)", "wipe()",
    };
    private static final String[] RULED_OUT = {
        "import ", "package ", "->", "::", "try", "catch", "throw ", "synchronized", "assert", "double", "float",
        "Exact", "System.", "getClass", "hashCode", "\"",
    };

    public static void main(String[] args) throws IOException {
        constants();
        constructors();
        methods();
        text();
        Due.finish();
    }

    private static void constants() {
        Due.is("UNKNOWN", FarthestFirst.UNKNOWN, -1);
        Due.is("OUTSIDE", FarthestFirst.OUTSIDE, -2);
        Due.is("STATE", FarthestFirst.STATE, -3);
        Due.is("FULL", FarthestFirst.FULL, -4);
        Due.is("NO", FarthestFirst.NO, -5);
        Due.is("NONE", FarthestFirst.NONE, -6);
        TreeSet<String> open = new TreeSet<>();
        for (Field f : FarthestFirst.class.getDeclaredFields()) {
            if (!Modifier.isPrivate(f.getModifiers())) {
                open.add(f.getName());
                Due.is("modifiers of " + f.getName(), f.getModifiers(),
                    Modifier.PUBLIC | Modifier.STATIC | Modifier.FINAL);
            }
            if (Modifier.isStatic(f.getModifiers())) {
                Due.holds(f.getName() + " is final", Modifier.isFinal(f.getModifiers()));
            }
        }
        Due.holds("constants " + open, open.toString().equals("[FULL, NO, NONE, OUTSIDE, STATE, UNKNOWN]"));
    }

    private static void constructors() {
        Due.holds("the class is public", Modifier.isPublic(FarthestFirst.class.getModifiers()));
        Due.holds("the class is final", Modifier.isFinal(FarthestFirst.class.getModifiers()));
        Constructor<?>[] all = FarthestFirst.class.getDeclaredConstructors();
        Due.is("constructors", all.length, 1);
        Due.holds("the constructor is public", Modifier.isPublic(all[0].getModifiers()));
        Due.is("its parameters", all[0].getParameterCount(), 0);
    }

    private static void methods() {
        TreeSet<String> face = new TreeSet<>();
        TreeSet<String> faceNames = new TreeSet<>();
        TreeSet<String> otherNames = new TreeSet<>();
        for (Method m : FarthestFirst.class.getDeclaredMethods()) {
            if (Modifier.isPrivate(m.getModifiers()) || m.isSynthetic()) {
                otherNames.add(m.getName());
                continue;
            }
            Due.holds(m.getName() + " is public", Modifier.isPublic(m.getModifiers()));
            Due.holds(m.getName() + " is of an object", !Modifier.isStatic(m.getModifiers()));
            Due.holds(m.getName() + " answers an int", m.getReturnType() == int.class);
            StringBuilder told = new StringBuilder(m.getName()).append('(');
            for (Class<?> c : m.getParameterTypes()) {
                told.append(told.charAt(told.length() - 1) == '(' ? "" : ",").append(c.getName());
            }
            face.add(told.append(')').toString());
            faceNames.add(m.getName());
        }
        Due.holds("methods " + face, face.equals(new TreeSet<>(java.util.List.of(METHODS))));
        otherNames.retainAll(faceNames);
        Due.holds("private methods with a public name " + otherNames, otherNames.isEmpty());
    }

    private static void text() throws IOException {
        String source = Files.readString(Path.of("src/main/java/FarthestFirst.java"));
        String code = source.replaceAll("(?s)/\\*.*?\\*/", "").replaceAll("//[^\n]*", "");
        for (String word : RULED_OUT) {
            Due.holds("the source has no " + word, !code.contains(word));
        }
        for (int i = 0; i < source.length(); i++) {
            if (source.charAt(i) > 126) {
                Due.holds("sign " + i + " of the source is plain", false);
            }
        }
    }
}
