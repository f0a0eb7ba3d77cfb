import java.io.IOException;
import java.lang.reflect.Method;
import java.lang.reflect.Modifier;
import java.nio.file.Files;
import java.nio.file.Path;
import java.util.regex.Matcher;
import java.util.regex.Pattern;

/** README.md says how to use the class: its example answers what stands beside it, and it names every call. */
public final class ReadmeTest {
    private static final Path README = Path.of("README.md");
    private static final Pattern TEXT = Pattern.compile("String text = \"([^\"]*)\";");
    /** A call whose answer stands behind it. */
    private static final Pattern CALL = Pattern.compile("(?m)^s\\.(\\w+)\\(([^)]*)\\); +// (-?\\d+)");
    private static final int LEAST_CALLS = 5;

    public static void main(String[] args) throws IOException, ReflectiveOperationException {
        String readme = Files.readString(README);
        example(readme);
        names(readme);
        Check.due("it says how to run the tests", readme.contains(".ci/run"));
        Check.end();
    }

    private static void example(String readme) throws ReflectiveOperationException {
        Matcher text = TEXT.matcher(readme);
        Check.due("the example has a text", text.find());
        StairPortraits stairs = new StairPortraits();
        Check.feed(stairs, text.group(1));
        Matcher call = CALL.matcher(readme);
        int calls = 0;
        while (call.find()) {
            calls++;
            String name = call.group(1) + "(" + call.group(2) + ") of README.md";
            Check.due(name, answer(stairs, call.group(1), call.group(2)), Integer.parseInt(call.group(3)));
        }
        Check.due("the example has calls", calls >= LEAST_CALLS);
    }

    private static int answer(StairPortraits stairs, String name, String list) throws ReflectiveOperationException {
        String[] words = list.isEmpty() ? new String[0] : list.split(", *");
        Method method = methodNamed(name);
        Object[] values = new Object[words.length];
        for (int k = 0; k < words.length; k++) {
            boolean truth = method.getParameterTypes()[k] == boolean.class;
            values[k] = truth ? (Object) Boolean.valueOf(words[k]) : (Object) Integer.valueOf(words[k]);
        }
        return (Integer) method.invoke(stairs, values);
    }

    private static Method methodNamed(String name) throws NoSuchMethodException {
        for (Method m : StairPortraits.class.getDeclaredMethods()) {
            if (Modifier.isPublic(m.getModifiers()) && m.getName().equals(name)) {
                return m;
            }
        }
        throw new NoSuchMethodException(name);
    }

    private static void names(String readme) {
        for (Method m : StairPortraits.class.getDeclaredMethods()) {
            if (Modifier.isPublic(m.getModifiers())) {
                String list = ", x".repeat(m.getParameterCount()).replaceFirst(", ", "").replace("x", "\\w+");
                boolean named = Pattern.compile("`" + m.getName() + "\\(" + list + "\\)`").matcher(readme).find();
                Check.due("README.md names " + m.getName() + " with what it takes", named);
            }
        }
    }
}
