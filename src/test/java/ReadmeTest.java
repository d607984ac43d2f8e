import java.lang.reflect.InvocationTargetException;
import java.lang.reflect.Method;
import java.nio.file.Files;
import java.nio.file.Path;
import java.util.List;
import java.util.regex.Matcher;
import java.util.regex.Pattern;

/** README.md: its calls answer what stands behind them, and it names every call of the face and every test. */
public final class ReadmeTest {
    private static final Pattern MADE = Pattern.compile("IceBridge x = new IceBridge\\(\\);");
    private static final Pattern FED = Pattern.compile("feed\\(x, \"([^\"]*)\"\\);");
    private static final Pattern CALLED = Pattern.compile("x\\.(\\w+)\\(([^)]*)\\); +// (\\S+)");

    private static IceBridge x = new IceBridge();

    private ReadmeTest() {
    }

    public static void main(String[] args) throws Exception {
        List<String> lines = Files.readAllLines(Path.of("README.md"));
        int calls = 0;
        for (String line : lines) {
            calls += follow(line) ? 1 : 0;
        }
        Due.is("calls in README.md", true, calls > 20);
        String text = String.join("\n", lines);
        namesCalls(text);
        namesTests(text);
        Due.end();
    }

    private static boolean follow(String line) throws Exception {
        if (MADE.matcher(line).matches()) {
            x = new IceBridge();
        }
        Matcher fed = FED.matcher(line);
        if (fed.matches()) {
            Due.feed(x, fed.group(1));
        }
        Matcher called = CALLED.matcher(line);
        if (!called.matches()) {
            return false;
        }
        String answer = answerOf(called.group(1), called.group(2));
        if (!answer.equals(called.group(3))) {
            System.out.println(line + " answers " + answer);
        }
        Due.is(line, true, answer.equals(called.group(3)));
        return true;
    }

    private static Method named(String name) {
        for (Method m : IceBridge.class.getMethods()) {
            if (m.getName().equals(name)) {
                return m;
            }
        }
        throw new IllegalStateException("no call " + name);
    }

    private static String answerOf(String name, String listed) throws Exception {
        Method method = named(name);
        String[] words = listed.isEmpty() ? new String[0] : listed.split(", ");
        Object[] given = new Object[words.length];
        for (int i = 0; i < words.length; i++) {
            boolean yesOrNo = method.getParameterTypes()[i] == boolean.class;
            given[i] = yesOrNo ? (Object) Boolean.valueOf(words[i]) : (Object) Integer.valueOf(words[i]);
        }
        try {
            return String.valueOf(method.invoke(x, given));
        } catch (InvocationTargetException e) {
            return e.getCause().getClass().getSimpleName();
        }
    }

    private static void namesCalls(String text) {
        for (Method m : IceBridge.class.getDeclaredMethods()) {
            if (java.lang.reflect.Modifier.isPublic(m.getModifiers())) {
                Due.is("README.md names " + m.getName(), true, text.contains("`" + m.getName() + "`"));
            }
        }
    }

    private static void namesTests(String text) throws Exception {
        try (var files = Files.list(Path.of("src/test/java"))) {
            for (Path file : (Iterable<Path>) files::iterator) {
                String name = file.getFileName().toString();
                if (name.endsWith(".java")) {
                    name = name.substring(0, name.length() - 5);
                    Due.is("README.md names " + name, true, text.contains("`" + name + "`"));
                }
            }
        }
    }
}
