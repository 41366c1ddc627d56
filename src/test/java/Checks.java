import java.io.IOException;
import java.lang.reflect.InvocationTargetException;
import java.lang.reflect.Method;
import java.nio.file.Files;
import java.nio.file.Path;
import java.util.TreeMap;
import java.util.TreeSet;

/** Counts and prints the answers that are not the ones that are due. */
final class Checks {
    private static final Path DOCUMENT = Path.of("../shared/DOC.md");

    private final String name;
    private final TreeSet<Integer> promisesSeen = new TreeSet<>();
    private String heading = "";
    private int lookedAtHeading;
    private int looked;
    private int wrong;

    Checks(String name) {
        this.name = name;
    }

    void due(String call, long got, long want) {
        looked++;
        if (got != want) {
            wrong++;
            System.out.println(name + ": " + heading + call + " answered " + got + ", due is " + want);
        }
    }

    void holds(String what, boolean does) {
        due(what, does ? 1 : 0, 1);
    }

    int wrongSoFar() {
        return wrong;
    }

    // ---- words of the document

    /** What follows looks at these words of a promise. */
    void promise(int number, String words) {
        promisesSeen.add(number);
        begin("Promise " + number, "## Promise " + number + ":", words);
    }

    /** What follows looks at these words of the document's Terms. */
    void terms(String words) {
        begin("Terms", "## Terms", words);
    }

    /** What follows looks at these words of the document's beginning. */
    void whatItIs(String words) {
        begin("What it is", "## What it is", words);
    }

    /** What follows looks at these words of the document's public face. */
    void face(String words) {
        begin("The public face", "## The public face", words);
    }

    private void begin(String section, String head, String words) {
        endHeading();
        heading = section + " \"" + words + "\": ";
        if (Files.isReadable(DOCUMENT)) {
            holds("the document says so", sectionOf(head).contains(squeezed(words)));
        }
        lookedAtHeading = looked;
    }

    private void endHeading() {
        if (!heading.isEmpty()) {
            holds("something is looked at", looked > lookedAtHeading);
        }
        heading = "";
    }

    /** The whole document; empty, if it can not be read. */
    static String document() {
        try {
            return Files.readString(DOCUMENT);
        } catch (IOException e) {
            return "";
        }
    }

    private static String sectionOf(String head) {
        String text = "\n" + document();
        int from = text.indexOf("\n" + head);
        if (from < 0) {
            return "";
        }
        int to = text.indexOf("\n## ", from + 1);
        return squeezed(text.substring(from, to < 0 ? text.length() : to));
    }

    private static String squeezed(String s) {
        return s.replaceAll("\\s+", " ");
    }

    // ---- running

    /** Runs each private static method of the class that begins with p or t and two figures, by name. */
    void runAll(Class<?> tests) {
        TreeMap<String, Method> byName = new TreeMap<>();
        for (Method m : tests.getDeclaredMethods()) {
            if (m.getName().matches("[pt][0-9][0-9].*") && m.getParameterCount() == 0) {
                byName.put(m.getName(), m);
            }
        }
        for (Method m : byName.values()) {
            m.setAccessible(true);
            try {
                m.invoke(null);
            } catch (InvocationTargetException e) {
                holds(m.getName() + " ended by " + e.getCause(), false);
            } catch (IllegalAccessException e) {
                holds(m.getName() + " can be called", false);
            }
            endHeading();
        }
    }

    void sawPromises(int from, int to) {
        for (int n = from; n <= to; n++) {
            holds("promise " + n + " has a test", promisesSeen.contains(n));
        }
    }

    void end() {
        endHeading();
        System.out.println(name + ": " + looked + " answers looked at, " + wrong + " not as due");
        if (wrong != 0 || looked == 0) {
            System.exit(1);
        }
    }
}
