import java.io.IOException;
import java.lang.reflect.Field;
import java.lang.reflect.Method;
import java.nio.file.DirectoryStream;
import java.nio.file.Files;
import java.nio.file.Path;
import java.util.ArrayList;
import java.util.Arrays;
import java.util.List;
import java.util.Random;
import java.util.TreeMap;
import java.util.TreeSet;
import java.util.function.Supplier;
import java.util.regex.Matcher;
import java.util.regex.Pattern;

/** The document from its first line to its last: what no other test looks at, and that some test quotes each of its words. */
public final class DocumentTest {
    private static final Checks C = new Checks("DocumentTest");
    private static final String SIGNATURE = "`((?:int |long )?\\w+\\([^`]*\\))`";
    private static String source = "src/main/java/CrystalCuts.java";

    public static void main(String[] args) {
        if (args.length > 0) {
            source = args[0];
        }
        C.holds("the document can be read", !Checks.document().isEmpty());
        C.runAll(DocumentTest.class);
        C.end();
    }

    private static String sourceText() {
        try {
            return Files.readString(Path.of(source));
        } catch (IOException e) {
            return "";
        }
    }

    // ---- what it is

    /** Crystals of many kinds: few planes and many, small and great ones, corners where many meet. */
    private static List<Supplier<CrystalCuts>> crystals() {
        List<Supplier<CrystalCuts>> all = new ArrayList<>();
        for (Start start : Start.values()) {
            all.add(start::make);
        }
        for (int seed : new int[] {3, 1414, 271828, 999999}) {
            for (int n : new int[] {1, 8, 26}) {
                all.add(() -> drawn(seed, n, 20));
                all.add(() -> drawn(seed, n, 60));
                all.add(() -> drawn(seed, n, 7));
            }
        }
        for (int[] s : new int[][] {{1, 1, 1, 20}, {2, 2, 1, 40}, {1, 1, 0, 20}, {3, 1, 1, 37}, {2, 1, 0, 31}}) {
            all.add(() -> {
                CrystalCuts x = new CrystalCuts();
                x.family(63, s[0], s[1], s[2], s[3]);
                return x;
            });
        }
        return all;
    }

    private static CrystalCuts drawn(int seed, int n, int box) {
        CrystalCuts x = new CrystalCuts();
        for (int p = 0; p < 6; p++) {
            x.off(p, box);
        }
        x.draw(seed, n);
        return x;
    }

    private static void t01Exactly() {
        C.whatItIs("what is left, exactly: corners where three or more meet");
        long greatest = 0;
        for (Supplier<CrystalCuts> made : crystals()) {
            Looked crystal = new Looked(made);
            for (Looked.Corner c : crystal.corners) {
                for (int a = 0; a < 6; a += 2) {
                    C.holds("below above 0", c.parts()[a + 1] > 0);
                    C.due("in lowest terms", Looked.commonDivisor(c.parts()[a], c.parts()[a + 1]), 1);
                    greatest = Math.max(greatest, c.parts()[a + 1]);
                }
                C.holds("three or more meet", Integer.bitCount(c.meets()) >= 3);
            }
        }
        C.holds("some corners are far from whole", greatest > 50);
    }

    private static void t02Taken() {
        C.whatItIs("crystals told in a text, taken back");
        CrystalCuts x = new CrystalCuts();
        long first = x.digest();
        Start.write(x, "012345:111/30;0:100/19;");
        C.due("reads()", x.reads(), 10);
        C.due("all(3), an octahedron whose six ends are cut off", x.all(3), 24);
        C.due("back()", x.back(), 0);
        x.clear();
        C.due("digest()", x.digest(), first);
    }

    // ---- the public face

    private static List<String> faceLines() {
        List<String> lines = new ArrayList<>();
        String face = Checks.document();
        face = face.substring(face.indexOf("```java"), face.indexOf("## Terms"));
        for (String line : face.split("\n")) {
            if (line.trim().startsWith("public")) {
                lines.add(line.trim());
            }
        }
        return lines;
    }

    private static void t03Face() throws NoSuchFieldException, IllegalAccessException {
        C.face("public final class CrystalCuts {");
        String text = sourceText();
        int methods = 0;
        int at = 0;
        for (String line : faceLines()) {
            String want = line.endsWith(");") ? line.replace(");", ") {") : line;
            C.holds("behind the one ahead of it: " + want, text.indexOf(want, at) >= at);
            at = Math.max(at, text.indexOf(want, at));
            methods += line.matches("public (int|long) \\w+\\(.*\\);") ? 1 : 0;
        }
        C.due("how many methods", methods, 24);
        Matcher constants = Pattern.compile("(\\w+) = (-\\d+)").matcher(String.join("\n", faceLines()));
        int found = 0;
        while (constants.find()) {
            Field f = CrystalCuts.class.getField(constants.group(1));
            C.due(constants.group(1), f.getInt(null), Integer.parseInt(constants.group(2)));
            found++;
        }
        C.due("how many constants", found, 4);
    }

    private static void t04InterfaceSays() {
        C.terms("the interface says: ---- planes.");
        String text = sourceText();
        Matcher says = Pattern.compile("Ahead of the calls ([^\n]*) the interface says: (----[^\n.]*)\\.").matcher(Checks.document());
        int at = 0;
        int found = 0;
        while (says.find()) {
            String head = "// " + says.group(2);
            C.holds(head, text.indexOf(head, at) >= at);
            at = Math.max(at, text.indexOf(head, at));
            for (String call : says.group(1).replace("`", "").split(", ")) {
                Matcher next = Pattern.compile("\n    public \\w+ (\\w+)\\(").matcher(text);
                C.holds(call + " is next behind " + head, next.find(at) && next.group(1).equals(call));
                at = next.end();
                found++;
            }
        }
        C.due("how many calls", found, 24);
    }

    /** Each promise begins with the head of its call. */
    private static void t05Heads() {
        TreeSet<String> own = new TreeSet<>();
        for (Method m : CrystalCuts.class.getDeclaredMethods()) {
            own.add(m.getName());
        }
        Matcher heads = Pattern.compile("## Promise (\\d+): [^\n]*\n\n" + SIGNATURE).matcher(Checks.document());
        int found = 0;
        while (heads.find()) {
            found++;
            String head = heads.group(2);
            C.promise(found, "`" + head + "`");
            C.due("number", Integer.parseInt(heads.group(1)), found);
            C.holds("public " + head, sourceText().contains("    public " + head + " {"));
            C.holds("a call of that name", found == 1 || own.contains(head.replaceAll("^\\w+ (\\w+)\\(.*", "$1")));
        }
        C.due("how many promises", found, 25);
    }

    // ---- terms

    private static void t06Numbers() {
        C.terms("31: 0 to 5 are the BOX");
        CrystalCuts x = new CrystalCuts();
        for (int p = 6; p <= 31; p++) {
            C.due("plane", x.plane(1, 2, 3, p), p);
        }
        C.due("a 33rd", x.plane(1, 2, 3, 32), -4);
        for (int p = 0; p <= 31; p++) {
            C.due("of(" + p + ", 3)", x.of(p, 3), p < 6 ? 20 : p);
        }
        C.due("of(32, 3)", x.of(32, 3), -100);
        C.due("of(-1, 3)", x.of(-1, 3), -100);
    }

    private static void t07BehindAndOn() {
        C.terms("A point x, y, z is BEHIND a PLANE, if h x and k y and l z together are OFF or less; ON it, if they are just that.");
        for (Supplier<CrystalCuts> made : crystals()) {
            Looked crystal = new Looked(made);
            for (Looked.Corner c : crystal.corners) {
                for (int p = 0; p < crystal.planes.length; p++) {
                    long beyond = c.beyond(crystal.planes[p]);
                    C.holds("BEHIND", beyond <= 0);
                    C.due("ON", c.meets() >>> p & 1, beyond == 0 ? 1 : 0);
                }
            }
        }
    }

    /** A point of whole numbers is BEHIND all PLANES just if it is no farther any way than THE CRYSTAL reaches. */
    private static void t08Crystal() {
        C.terms("THE CRYSTAL: all points that are BEHIND all PLANES.");
        for (int[] d : new int[][] {{1, 26, 20}, {5, 12, 20}, {77, 5, 25}, {999999, 26, 60}}) {
            int[][] planes = new Looked(() -> drawn(d[0], d[1], d[2])).planes;
            List<int[]> within = pointsBehind(planes, d[2]);
            for (int code = 0; code < 343; code++) {
                int[] s = {code / 49 - 3, code / 7 % 7 - 3, code % 7 - 3};
                if (s[0] != 0 || s[1] != 0 || s[2] != 0) {
                    CrystalCuts x = drawn(d[0], d[1], d[2]);
                    x.reach(s[0], s[1], s[2]);
                    long most = within.stream().mapToLong(p -> s[0] * p[0] + s[1] * p[1] + s[2] * p[2]).max().orElse(0);
                    C.holds("reached, by " + code, most * x.part(1) <= x.part(0));
                }
            }
            for (int[] p : planes) {
                CrystalCuts x = drawn(d[0], d[1], d[2]);
                x.reach(p[0], p[1], p[2]);
                C.holds("not beyond a PLANE", x.part(0) <= p[3] * x.part(1));
            }
        }
    }

    private static List<int[]> pointsBehind(int[][] planes, int far) {
        List<int[]> found = new ArrayList<>();
        for (int x = -far; x <= far; x++) {
            for (int y = -far; y <= far; y++) {
                for (int z = -far; z <= far; z++) {
                    boolean behind = true;
                    for (int i = 0; behind && i < planes.length; i++) {
                        behind = planes[i][0] * x + planes[i][1] * y + planes[i][2] * z <= planes[i][3];
                    }
                    if (behind) {
                        found.add(new int[] {x, y, z});
                    }
                }
            }
        }
        return found;
    }

    private static void t09Corners() {
        C.terms("CORNERS: points of THE CRYSTAL that are ON three PLANES or more whose SIGNS are not all of one plane (their determinant is not 0); each point is one CORNER.");
        for (Supplier<CrystalCuts> made : crystals()) {
            Looked crystal = new Looked(made);
            TreeSet<String> told = new TreeSet<>();
            for (Looked.Corner c : crystal.corners) {
                told.add(Arrays.toString(c.parts()));
            }
            C.due("each point once", told.size(), crystal.corners.length);
            C.holds("just where three PLANES meet", told.equals(crossings(crystal.planes)));
        }
    }

    private static TreeSet<String> crossings(int[][] planes) {
        TreeSet<String> found = new TreeSet<>();
        for (int i = 0; i < planes.length; i++) {
            for (int j = i + 1; j < planes.length; j++) {
                for (int m = j + 1; m < planes.length; m++) {
                    long det = Looked.det(planes[i], planes[j], planes[m]);
                    if (det != 0) {
                        Looked.Corner c = crossing(planes[i], planes[j], planes[m], det);
                        boolean behind = true;
                        for (int[] p : planes) {
                            behind = behind && c.beyond(p) <= 0;
                        }
                        if (behind) {
                            found.add(Arrays.toString(c.parts()));
                        }
                    }
                }
            }
        }
        return found;
    }

    /** By Cramer: each coordinate's column is taken for the OFFS. */
    private static Looked.Corner crossing(int[] a, int[] b, int[] c, long det) {
        long[] parts = new long[6];
        for (int axis = 0; axis < 3; axis++) {
            int[][] rows = {a.clone(), b.clone(), c.clone()};
            for (int[] row : rows) {
                row[axis] = row[3];
            }
            long above = Looked.det(rows[0], rows[1], rows[2]);
            long shared = Looked.commonDivisor(above, det) * Long.signum(det);
            parts[2 * axis] = above / shared;
            parts[2 * axis + 1] = det / shared;
        }
        return new Looked.Corner(parts, 0);
    }

    // ---- the text

    private static int readsOf(String text) {
        CrystalCuts x = new CrystalCuts();
        Start.write(x, text);
        return x.reads();
    }

    private static void t10ColonAhead() {
        C.terms("figures of TURNS (0 .. 5, one or more) and : ahead, if there is a : ahead of the next ; (or of the end): the whole FAMILY comes, in order");
        // 4 and 5 are TURNS, but no figures of h: so where the first byte is the fault, no : was seen.
        String[][] texts = {{"45", "0"}, {"45;", "0"}, {"45;:", "0"}, {"45;4:111/9;", "0"}, {"45/9;0:111/9;", "0"}, {"45:", "3"}, {"45:;", "3"},
            {"45 : ;", "5"}, {"45/:", "2"}, {"45/9:;", "2"}, {"45x:", "2"}, {"45;x:", "0"}, {"45111/9;:", "0"}, {"45 1:11/9;", "7"},
            {"111/9;45", "6"}, {"111/9;45;:", "6"}, {"111/9;45:", "9"}, {"4:111/9;45;", "8"}, {"4:111/9;45:;", "11"}};
        for (String[] t : texts) {
            C.due("reads of '" + t[0] + "'", readsOf(t[0]), -10 - Integer.parseInt(t[1]));
        }
        C.due("a : for one PLANE alone", readsOf("4:100/9;100/9;"), 4);
        C.due("for the other", readsOf("100/9;4:100/9;"), 4);
        C.due("for both", readsOf("4:100/9;4:100/9;"), 6);
    }

    /** Without a : behind it, what comes ahead of the FAULT could go on, and what comes behind it does not matter. */
    private static void t11FirstByte() {
        C.terms("FAULT: the place of the first byte that can not stand there");
        Random r = new Random(20261118);
        String bytes = "0011223-/;;: 9x";
        String[] whole = {"111/30;", "04:12-3/7;", " 1 - 2 0 / 60 ;", "3:-1-1-1/05;"};
        int faults = 0;
        for (int i = 0; i < 20000; i++) {
            StringBuilder t = new StringBuilder(whole[r.nextInt(4)]).append(whole[r.nextInt(4)]);
            for (int n = r.nextInt(3); n >= 0; n--) {
                t.setCharAt(r.nextInt(t.length()), bytes.charAt(r.nextInt(bytes.length())));
            }
            int fault = -10 - readsOf(t.toString());
            if (fault >= 0 && fault < t.length() && t.indexOf(":", fault) < 0) {
                faults++;
                int ahead = readsOf(t.substring(0, fault));
                C.holds("'" + t + "', the part ahead of " + fault, ahead >= 1 || ahead == -10 - fault);
                if (t.charAt(fault) < '0' || t.charAt(fault) > '9') {
                    C.due("'" + t + "', the part up to " + fault, readsOf(t.substring(0, fault + 1)), -10 - fault);
                    C.due("'" + t + "', another end", readsOf(t.substring(0, fault + 1) + "/5;x"), -10 - fault);
                }
            }
        }
        C.holds("many faults", faults > 2000);
    }

    // ---- promises

    private static void p07EachNumber() {
        C.promise(7, "X is SEED (0 .. 999999) at first; for each X becomes X times 1103515245 and 12345, by 2147483648 what is left over: "
            + "h X by 65536 (cut), by 7, less 3, k X by 1024, by 7, less 3, l X by 32768, by 7, less 3 (all 0: h is 1), OFF 10 and X by 512, by 31");
        // Reckoned outside of Java.
        int[][] due = {{0, -3, 2, -3, 34, 3, 1, 2, 23, 3, -2, 2, 22}, {1, 0, 3, 3, 31, 1, 3, -1, 35, 2, 3, 1, 28},
            {999999, -1, 1, 2, 16, 1, -3, -2, 36, 3, -2, 2, 16}, {271828, 0, 0, -3, 13, -3, -2, -3, 30, -2, 0, 0, 38}};
        for (int[] d : due) {
            CrystalCuts x = new CrystalCuts();
            x.draw(d[0], 3);
            for (int i = 0; i < 12; i++) {
                C.due("seed " + d[0] + ", of(" + (6 + i / 4) + ", " + i % 4 + ")", x.of(6 + i / 4, i % 4), d[1 + i]);
            }
        }
    }

    /** An EDGE runs from one corner that is ON both to the other. */
    private static void p14WhichWay() {
        C.promise(14, "which way it runs (1 x, 2 y, 3 z: the cross product of both SIGNS in lowest terms, the first that is not 0 above 0; 0 without an EDGE), how many CORNERS are ON both (4)");
        for (Supplier<CrystalCuts> made : crystals()) {
            Looked crystal = new Looked(made);
            CrystalCuts x = made.get();
            int calls = 0;
            for (int p = 0; p < crystal.planes.length; p++) {
                for (int q = 0; q < p; q++) {
                    calls += 5;
                    if (calls > 300) {
                        x = made.get();
                        calls = 0;
                    }
                    edge(crystal, x, p, q);
                }
            }
        }
    }

    private static void edge(Looked crystal, CrystalCuts x, int p, int q) {
        int both = 1 << p | 1 << q;
        List<Looked.Corner> ends = new ArrayList<>();
        for (Looked.Corner c : crystal.corners) {
            if ((c.meets() & both) == both) {
                ends.add(c);
            }
        }
        C.due("CORNERS ON both", x.edge(p, q, 4), ends.size());
        long[] way = {x.edge(q, p, 1), x.edge(p, q, 2), x.edge(q, p, 3)};
        if (x.edge(p, q, 0) == 0) {
            C.holds("0 without an EDGE", way[0] == 0 && way[1] == 0 && way[2] == 0);
            return;
        }
        C.due("two ends", ends.size(), 2);
        C.due("in lowest terms", Looked.commonDivisor(Looked.commonDivisor(way[0], way[1]), way[2]), 1);
        C.holds("the first above 0", way[0] != 0 ? way[0] > 0 : way[1] != 0 ? way[1] > 0 : way[2] > 0);
        long[] a = ends.get(0).parts();
        long[] b = ends.get(1).parts();
        double[] run = new double[3];
        for (int axis = 0; axis < 3; axis++) {
            run[axis] = (double) b[2 * axis] / b[2 * axis + 1] - (double) a[2 * axis] / a[2 * axis + 1];
        }
        for (int axis = 0; axis < 3; axis++) {
            int next = (axis + 1) % 3;
            C.holds("along the EDGE", Math.abs(run[axis] * way[next] - run[next] * way[axis]) < 1e-6);
        }
    }

    private static void p16OneOrNought() {
        C.promise(16, "(each x, y, z as h, k, l by it): 1, 0.");
        for (Supplier<CrystalCuts> made : crystals()) {
            CrystalCuts x = made.get();
            int bits = x.symmetry();
            for (int turn = 0; turn <= 5; turn++) {
                C.due("stays(" + turn + ")", x.stays(turn), bits >> turn & 1);
            }
        }
    }

    // ---- every word of the document

    /** What tests quote of each section, by its heading. */
    private static TreeMap<String, List<String>> quoted() throws IOException {
        Pattern quote = Pattern.compile("C\\.(promise|terms)\\((?:(\\d+),\\s*)?((?:\"[^\"]*\"[\\s+]*)+)\\)");
        TreeMap<String, List<String>> all = new TreeMap<>();
        try (DirectoryStream<Path> tests = Files.newDirectoryStream(Path.of("src/test/java"), "*Test.java")) {
            for (Path test : tests) {
                Matcher m = quote.matcher(Files.readString(test));
                while (m.find()) {
                    String head = m.group(1).equals("terms") ? "Terms" : "Promise " + m.group(2) + ":";
                    String words = m.group(3).replaceAll("\"[\\s+]*\"", "").trim();
                    all.computeIfAbsent(head, h -> new ArrayList<>()).add(words.substring(1, words.length() - 1));
                }
            }
        }
        return all;
    }

    private static void t99EveryWordIsQuoted() throws IOException {
        TreeMap<String, List<String>> quoted = quoted();
        for (String section : Checks.document().split("\n## ")) {
            String head = section.startsWith("Terms") ? "Terms" : section.replaceAll("(?s)^(Promise \\d+:).*", "$1");
            if (quoted.containsKey(head)) {
                // Heads of calls, and what the interface says, have tests of their own above.
                String text = section.substring(section.indexOf('\n')).replaceAll("```\\w*", "").replaceAll(SIGNATURE, "")
                    .replaceAll("Ahead of the calls [^\n]*", "").replaceAll("======== \\d", "").replaceAll("\\s+", " ");
                String rest = rest(text, quoted.get(head));
                C.due(head + " words that no test quotes, '" + rest + "'", rest.length(), 0);
            }
        }
        C.due("sections", quoted.size(), 26);
    }

    /** The words that no quote holds. */
    private static String rest(String text, List<String> quotes) {
        StringBuilder left = new StringBuilder(text);
        for (String q : quotes) {
            for (int at = text.indexOf(q); at >= 0; at = text.indexOf(q, at + 1)) {
                for (int i = at; i < at + q.length(); i++) {
                    left.setCharAt(i, ' ');
                }
            }
        }
        return left.toString().replaceAll("[^A-Za-z0-9]+", " ").trim();
    }
}
