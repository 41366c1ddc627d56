import java.io.IOException;
import java.lang.reflect.Method;
import java.nio.file.Files;
import java.nio.file.Path;
import java.util.TreeSet;
import java.util.regex.Matcher;
import java.util.regex.Pattern;

/** README.md: the answers that its example tells are those that the class gives, and it names every call. */
public final class ReadmeTest {
    private static final Checks C = new Checks("ReadmeTest");
    private static final Pattern CALL = Pattern.compile("^x\\.(\\w+)\\(([-0-9, ]*)\\); +// (-?\\d+)\\b.*");
    private static final Pattern TEXT = Pattern.compile("^for \\(char c : \"([^\"]*)\"\\.toCharArray\\(\\)\\) \\{$");

    public static void main(String[] args) throws IOException, ReflectiveOperationException {
        String readme = Files.readString(Path.of("README.md"));
        example(readme);
        namesEveryCall(readme);
        namesEveryTest(readme);
        C.end();
    }

    private static void example(String readme) throws ReflectiveOperationException {
        int from = readme.indexOf("```java\n") + 8;
        String[] lines = readme.substring(from, readme.indexOf("```", from)).split("\n");
        CrystalCuts x = new CrystalCuts();
        C.holds("it begins with a new object", lines[0].startsWith("CrystalCuts x = new CrystalCuts();"));
        int called = 0;
        for (int i = 1; i < lines.length; i++) {
            Matcher call = CALL.matcher(lines[i]);
            Matcher text = TEXT.matcher(lines[i]);
            if (call.matches()) {
                C.due(lines[i], answer(x, call.group(1), call.group(2)), Long.parseLong(call.group(3)));
                called++;
            } else if (text.matches()) {
                Start.write(x, text.group(1));
                C.holds("a text is typed by " + lines[i + 1], lines[i + 1].trim().startsWith("x.type(c);"));
                C.holds("and ends behind it", lines[i + 2].equals("}"));
                i += 2;
            } else {
                C.holds("a call with its answer: " + lines[i], lines[i].isBlank());
            }
        }
        C.holds("some calls", called >= 10);
    }

    private static long answer(CrystalCuts x, String name, String told) throws ReflectiveOperationException {
        String[] parts = told.isBlank() ? new String[0] : told.split(", *");
        Object[] given = new Object[parts.length];
        Class<?>[] types = new Class<?>[parts.length];
        for (int i = 0; i < parts.length; i++) {
            given[i] = Integer.parseInt(parts[i]);
            types[i] = int.class;
        }
        Method m = CrystalCuts.class.getMethod(name, types);
        return ((Number) m.invoke(x, given)).longValue();
    }

    private static void namesEveryCall(String readme) {
        TreeSet<String> names = new TreeSet<>();
        for (Method m : CrystalCuts.class.getDeclaredMethods()) {
            if (java.lang.reflect.Modifier.isPublic(m.getModifiers())) {
                names.add(m.getName());
            }
        }
        for (String name : names) {
            C.holds("it tells of " + name, readme.contains("`" + name + "("));
        }
    }

    private static void namesEveryTest(String readme) throws IOException {
        C.holds("it tells how tests are run", readme.contains(".ci/run"));
        try (var tests = Files.newDirectoryStream(Path.of("src/test/java"), "*Test.java")) {
            for (Path test : tests) {
                String name = test.getFileName().toString().replace(".java", "");
                C.holds("it tells of " + name, readme.contains("`" + name + "`"));
            }
        }
    }
}
