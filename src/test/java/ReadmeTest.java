import java.io.IOException;
import java.lang.reflect.Method;
import java.lang.reflect.Modifier;
import java.nio.file.Files;
import java.nio.file.Path;
import java.util.regex.Matcher;
import java.util.regex.Pattern;

/** README.md names every call and every constant, and its example answers what it says. */
public final class ReadmeTest {
    private static final Pattern CALL = Pattern.compile("^well\\.(\\w+)\\(([^)]*)\\); *// (-?\\d+)\\b.*");

    public static void main(String[] args) throws IOException, ReflectiveOperationException {
        String readme = Files.readString(Path.of("README.md"));
        names(readme);
        example(readme);
        Due.finish();
    }

    private static void names(String readme) throws IllegalAccessException {
        for (Method m : FarthestFirst.class.getDeclaredMethods()) {
            if (Modifier.isPublic(m.getModifiers())) {
                Due.holds("README.md tells of " + m.getName(), readme.contains("| `" + m.getName() + "("));
            }
        }
        for (java.lang.reflect.Field f : FarthestFirst.class.getFields()) {
            Due.holds("README.md tells of " + f.getName(), readme.contains("`" + f.getName() + "` " + f.getInt(null)));
        }
        for (String folder : new String[] {"src/test/java", "src/test/support"}) {
            for (String file : Path.of(folder).toFile().list()) {
                Due.holds("README.md tells of " + file, readme.contains(file.replace(".java", "")));
            }
        }
    }

    private static void example(String readme) throws ReflectiveOperationException {
        FarthestFirst x = new FarthestFirst();
        int calls = 0;
        for (String line : readme.split("\n")) {
            Matcher call = CALL.matcher(line);
            if (call.matches()) {
                calls++;
                Due.is(line, answer(x, call.group(1), call.group(2)), Integer.parseInt(call.group(3)));
            } else {
                Due.holds("a call with its answer: " + line, !line.startsWith("well."));
            }
        }
        Due.holds("there is an example", calls > 0);
    }

    private static int answer(FarthestFirst x, String name, String told) throws ReflectiveOperationException {
        String[] texts = told.isEmpty() ? new String[0] : told.split(", *");
        Class<?>[] types = new Class<?>[texts.length];
        Object[] values = new Object[texts.length];
        for (int i = 0; i < texts.length; i++) {
            boolean yesOrNo = texts[i].equals("true") || texts[i].equals("false");
            types[i] = yesOrNo ? boolean.class : int.class;
            values[i] = yesOrNo ? (Object) texts[i].equals("true") : (Object) number(texts[i]);
        }
        return (int) FarthestFirst.class.getMethod(name, types).invoke(x, values);
    }

    private static int number(String text) {
        return text.startsWith("'") ? text.charAt(1) : Integer.parseInt(text);
    }
}
