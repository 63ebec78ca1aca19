import java.lang.reflect.Method;
import java.lang.reflect.Modifier;
import java.nio.charset.StandardCharsets;
import java.nio.file.DirectoryStream;
import java.nio.file.Files;
import java.nio.file.Path;
import java.util.List;
import java.util.regex.Matcher;
import java.util.regex.Pattern;

/** README.md tells the truth: its examples are answered as it says, and it names each method and each test. */
public final class ReadmeTest {
    private static final Path README = Path.of("README.md"), TESTS = Path.of("src/test/java");
    private static final Pattern CALL = Pattern.compile("x\\.(\\w+)\\(([^)]*)\\);\\s*// (-?\\d+)\\b.*");

    private final Check check = new Check("ReadmeTest");
    private BurlPipes x = new BurlPipes();

    public static void main(String[] args) throws Exception {
        ReadmeTest test = new ReadmeTest();
        List<String> lines = Files.readAllLines(README, StandardCharsets.ISO_8859_1);
        test.makeCalls(lines);
        test.checkNames(String.join("\n", lines));
        test.check.end();
    }

    private void makeCalls(List<String> lines) throws Exception {
        boolean within = false;
        for (String line : lines) {
            if (line.startsWith("```")) {
                within = line.equals("```java");
            } else if (within && line.startsWith("BurlPipes x = new BurlPipes();")) {
                x = new BurlPipes();
            } else if (within) {
                makeCall(line);
            }
        }
    }

    private void makeCall(String line) throws Exception {
        Matcher m = CALL.matcher(line);
        check.holds("a call with its answer: " + line, m.matches());
        if (m.matches()) {
            String[] texts = m.group(2).isEmpty() ? new String[0] : m.group(2).split(", ");
            check.due("README.md: " + line, call(m.group(1), texts), Integer.parseInt(m.group(3)));
        }
    }

    private int call(String name, String[] texts) throws Exception {
        for (Method method : BurlPipes.class.getMethods()) {
            Class<?>[] types = method.getParameterTypes();
            if (method.getName().equals(name) && types.length == texts.length) {
                Object[] values = new Object[texts.length];
                for (int i = 0; i < texts.length; i++) {
                    values[i] = value(texts[i], types[i]);
                }
                return (Integer) method.invoke(x, values);
            }
        }
        throw new IllegalStateException("there is no " + name + " that takes " + texts.length);
    }

    private static Object value(String text, Class<?> type) {
        if (type == boolean.class) {
            return Boolean.valueOf(text);
        }
        if (type == long.class) {
            return Long.decode(text.replace("L", ""));
        }
        return Integer.valueOf(text);
    }

    private void checkNames(String readme) throws Exception {
        for (Method method : BurlPipes.class.getDeclaredMethods()) {
            if (Modifier.isPublic(method.getModifiers())) {
                check.holds("README.md shows a call of " + method.getName(), readme.contains("x." + method.getName() + "("));
            }
        }
        try (DirectoryStream<Path> tests = Files.newDirectoryStream(TESTS, "*Test.java")) {
            for (Path test : tests) {
                String name = test.getFileName().toString().replace(".java", "");
                check.holds("README.md names " + name, readme.contains("`" + name + "`"));
            }
        }
    }
}
