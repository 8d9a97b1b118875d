import java.io.IOException;
import java.lang.reflect.Method;
import java.lang.reflect.Modifier;
import java.nio.file.Files;
import java.nio.file.Path;
import java.util.regex.Matcher;
import java.util.regex.Pattern;

/** README.md: its example answers what it says, and it names every call of the face and every test. */
public final class ReadmeTest {
    private static final Check check = new Check("ReadmeTest");
    private static final Pattern CALL = Pattern.compile("x\\.(\\w+)\\(([^)]*)\\); +// (\\S+):.*");

    public static void main(String[] args) throws IOException, ReflectiveOperationException {
        String readme = Files.readString(Path.of("README.md"));
        example(readme);
        for (Method m : KickOdds.class.getDeclaredMethods()) {
            if (Modifier.isPublic(m.getModifiers())) {
                check.due("names " + m.getName(), true, readme.contains("`" + m.getName() + "("));
            }
        }
        try (var files = Files.list(Path.of("src/test/java"))) {
            for (Path file : files.sorted().toList()) {
                String name = file.getFileName().toString().replace(".java", "");
                check.due("names " + name, true, readme.contains("`" + name + "`"));
            }
        }
        check.due("says how to run the tests", true, readme.contains("`.ci/run`"));
        check.finish();
    }

    private static void example(String readme) throws ReflectiveOperationException {
        int from = readme.indexOf("```java\n");
        int to = readme.indexOf("```\n", from + 1);
        check.due("has an example", true, from >= 0 && to > from);
        String[] lines = readme.substring(from, to).split("\n");
        check.due("makes an object", true, lines[1].equals("KickOdds x = new KickOdds();"));
        KickOdds x = new KickOdds();
        for (int i = 2; i < lines.length; i++) {
            Matcher m = CALL.matcher(lines[i]);
            boolean fits = m.matches();
            check.due("a call with its answer: " + lines[i], true, fits);
            if (fits) {
                String got = answer(x, m.group(1), m.group(2).isEmpty() ? new String[0] : m.group(2).split(", "));
                check.due(lines[i] + " (it answered " + got + ")", true, got.equals(m.group(3)));
            }
        }
    }

    private static String answer(KickOdds x, String name, String[] told) throws ReflectiveOperationException {
        for (Method m : KickOdds.class.getDeclaredMethods()) {
            if (m.getName().equals(name) && m.getParameterCount() == told.length) {
                Object[] values = new Object[told.length];
                for (int i = 0; i < told.length; i++) {
                    boolean word = m.getParameterTypes()[i] == boolean.class;
                    values[i] = word ? (Object) Boolean.valueOf(told[i]) : (Object) Integer.decode(told[i]);
                }
                return String.valueOf(m.invoke(x, values));
            }
        }
        return "no such call";
    }
}
