import java.io.IOException;
import java.lang.reflect.Constructor;
import java.lang.reflect.Field;
import java.lang.reflect.Method;
import java.lang.reflect.Modifier;
import java.nio.file.Files;
import java.nio.file.Path;
import java.util.List;
import java.util.Set;
import java.util.TreeSet;
import java.util.regex.Matcher;
import java.util.regex.Pattern;

/** The class keeps to the document's face and to the rules of LANGUAGE.md that a test can look at. */
public final class FaceTest {
    private static final Checks C = new Checks("FaceTest");
    private static final List<String> FACE = List.of(
        "int plane(int,int,int,int)", "int family(int,int,int,int,int)", "int off(int,int)", "int drop(int)", "int anew()",
        "int draw(int,int)", "int of(int,int)", "int member(int,int,int,int,int)", "int all(int)", "int corner(int,int)",
        "int meets(int,int)", "long part(int)", "int edge(int,int,int)", "int reach(int,int,int)", "int stays(int)",
        "int symmetry()", "int hides(int,int,int,int)", "int spare(int)", "int type(int)", "int clear()", "int reads()",
        "int back()", "int told(int)", "long digest()");

    public static void main(String[] args) throws IOException {
        face();
        classesInside();
        source(args.length > 0 ? args[0] : "src/main/java/CrystalCuts.java");
        C.end();
    }

    private static String told(Method m) {
        StringBuilder s = new StringBuilder(m.getReturnType().getName()).append(' ').append(m.getName()).append('(');
        for (int i = 0; i < m.getParameterCount(); i++) {
            s.append(i == 0 ? "" : ",").append(m.getParameterTypes()[i].getName());
        }
        return s.append(')').toString();
    }

    private static Set<String> publicNames() {
        Set<String> names = new TreeSet<>();
        for (String f : FACE) {
            names.add(f.substring(f.indexOf(' ') + 1, f.indexOf('(')));
        }
        return names;
    }

    private static void face() {
        Class<?> c = CrystalCuts.class;
        C.holds("public and final", Modifier.isPublic(c.getModifiers()) && Modifier.isFinal(c.getModifiers()));
        C.holds("without a package", c.getPackageName().isEmpty());
        Set<String> found = new TreeSet<>();
        for (Method m : c.getDeclaredMethods()) {
            if (Modifier.isPublic(m.getModifiers())) {
                C.holds(told(m) + " is no static", !Modifier.isStatic(m.getModifiers()));
                found.add(told(m));
            } else {
                C.holds(told(m) + " is private", Modifier.isPrivate(m.getModifiers()));
                C.holds(told(m) + " has no public one's name", !publicNames().contains(m.getName()));
            }
        }
        C.holds("the methods of the face, no others", found.equals(new TreeSet<>(FACE)));
        Set<String> constants = new TreeSet<>();
        for (Field f : c.getDeclaredFields()) {
            if (Modifier.isPublic(f.getModifiers())) {
                C.holds(f.getName() + " is a constant", Modifier.isStatic(f.getModifiers()) && Modifier.isFinal(f.getModifiers()));
                constants.add(f.getName());
            } else {
                C.holds(f.getName() + " is private", Modifier.isPrivate(f.getModifiers()));
            }
        }
        C.holds("the constants of the face, no others", constants.equals(Set.of("NONE", "BAD", "NO", "FULL")));
        Constructor<?>[] made = c.getDeclaredConstructors();
        C.holds("one public constructor", made.length == 1 && Modifier.isPublic(made[0].getModifiers()) && made[0].getParameterCount() == 0);
    }

    private static void classesInside() {
        Class<?>[] inside = CrystalCuts.class.getDeclaredClasses();
        C.holds("twelve classes at most", inside.length < 12);
        for (Class<?> c : inside) {
            C.holds(c.getName() + " is static and not public", Modifier.isStatic(c.getModifiers()) && !Modifier.isPublic(c.getModifiers()));
            int fields = 0;
            for (Field f : c.getDeclaredFields()) {
                boolean isStatic = Modifier.isStatic(f.getModifiers());
                C.holds(c.getName() + "." + f.getName() + ", if static, is final", !isStatic || Modifier.isFinal(f.getModifiers()));
                fields += isStatic ? 0 : 1;
            }
            C.holds(c.getName() + " has twenty fields at most", fields <= 20);
            for (Method m : c.getDeclaredMethods()) {
                C.holds(m.getName() + " has no public one's name", !publicNames().contains(m.getName()));
                C.holds(m.getName() + " has seven parameters at most", m.getParameterCount() <= 7);
            }
        }
    }

    private static void source(String path) throws IOException {
        String text = Files.readString(Path.of(path));
        C.holds("signs 1 to 127 alone", text.chars().allMatch(ch -> ch < 128));
        String code = text.replaceAll("(?s)/\\*.*?\\*/", "").replaceAll("//[^\n]*", "");
        String[] forbidden = {"throw", "throws", "try", "catch", "finally", "synchronized", "assert", "->", "::", "package", "Random",
            "System.out", "nanoTime", "currentTimeMillis", "Exact", "hashCode", "toString", "protected", "native", "volatile",
            "Character", "String.format", "HashMap", "double", "float"};
        for (String word : forbidden) {
            String edge = Character.isLetter(word.charAt(0)) ? "\\b" : "";
            C.holds("no " + word, !Pattern.compile(edge + Pattern.quote(word)).matcher(code).find());
        }
        Matcher imports = Pattern.compile("import ([^;]*);").matcher(code);
        while (imports.find()) {
            C.holds("import " + imports.group(1), List.of("java.util.Arrays", "java.util.ArrayList", "java.util.List").contains(imports.group(1)));
        }
        methodsStayShort(text);
    }

    /** A method begins at a line with a head and ends at the brace that stands as deep as the head. */
    private static void methodsStayShort(String text) {
        String[] lines = text.split("\n");
        for (int i = 0; i < lines.length; i++) {
            Matcher head = Pattern.compile("^( +)(?:public|private)[^=;]*\\(.*\\) \\{$").matcher(lines[i]);
            if (head.matches()) {
                int end = i;
                while (!lines[end].equals(head.group(1) + "}")) {
                    end++;
                }
                C.holds("sixty lines at most: " + lines[i].trim(), end - i < 60);
            }
        }
    }
}
