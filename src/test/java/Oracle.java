import java.util.ArrayList;
import java.util.Arrays;
import java.util.List;
import java.util.TreeMap;
import java.util.TreeSet;

/** The document word by word, without any thought for speed: every three planes are met, every pair counted. */
final class Oracle {
    /** above by below, in lowest terms, below above 0. */
    record Fraction(long above, long below) implements Comparable<Fraction> {
        static Fraction of(long a, long b) {
            long g = gcd(Math.abs(a), Math.abs(b));
            return b < 0 ? new Fraction(-a / g, -b / g) : new Fraction(a / g, b / g);
        }

        Fraction plus(Fraction o) {
            return of(above * o.below + o.above * below, below * o.below);
        }

        Fraction times(long v) {
            return of(above * v, below);
        }

        @Override public int compareTo(Fraction o) {
            return Long.compare(above * o.below, o.above * below);
        }
    }

    record Point(Fraction x, Fraction y, Fraction z) implements Comparable<Point> {
        @Override public int compareTo(Point o) {
            int c = x.compareTo(o.x);
            c = c != 0 ? c : y.compareTo(o.y);
            return c != 0 ? c : z.compareTo(o.z);
        }

        Fraction along(int h, int k, int l) {
            return x.times(h).plus(y.times(k)).plus(z.times(l));
        }

        Point turned(int turn) {
            return switch (turn) {
                case 0 -> new Point(x.times(-1), y.times(-1), z.times(-1));
                case 1 -> new Point(x.times(-1), y, z);
                case 2 -> new Point(x.times(-1), y.times(-1), z);
                case 3 -> new Point(y.times(-1), x, z);
                case 4 -> new Point(z, x, y);
                default -> new Point(y, x, z);
            };
        }
    }

    record Plane(int h, int k, int l, int off) {
        boolean isOn(Point p) {
            return p.along(h, k, l).compareTo(new Fraction(off, 1)) == 0;
        }

        boolean isBehind(Point p) {
            return p.along(h, k, l).compareTo(new Fraction(off, 1)) <= 0;
        }

        /** The same points are ON both: three points of this one that span it are ON the other. */
        boolean isSameAs(Plane o) {
            long g = gcd(gcd(Math.abs(h), Math.abs(k)), gcd(Math.abs(l), off));
            long q = gcd(gcd(Math.abs(o.h), Math.abs(o.k)), gcd(Math.abs(o.l), o.off));
            return h / g == o.h / q && k / g == o.k / q && l / g == o.l / q && off / g == o.off / q;
        }
    }

    private static long gcd(long a, long b) {
        return b == 0 ? a : gcd(b, a % b);
    }

    private List<Plane> planes = new ArrayList<>();
    private final List<List<Plane>> states = new ArrayList<>();
    private final int[] refused = new int[3];
    private final StringBuilder text = new StringBuilder();
    private Fraction fraction = new Fraction(0, 1);
    private List<Plane> cornersFor;
    private List<Point> cornersKnown;

    Oracle() {
        planes = box();
    }

    private static List<Plane> box() {
        return new ArrayList<>(List.of(new Plane(1, 0, 0, 20), new Plane(-1, 0, 0, 20), new Plane(0, 1, 0, 20),
            new Plane(0, -1, 0, 20), new Plane(0, 0, 1, 20), new Plane(0, 0, -1, 20)));
    }

    // ---- the crystal by its definition

    private static long det(Plane a, Plane b, Plane c) {
        return (long) a.h * (b.k * c.l - b.l * c.k) - (long) a.k * (b.h * c.l - b.l * c.h) + (long) a.l * (b.h * c.k - b.k * c.h);
    }

    private static Point crossing(Plane a, Plane b, Plane c, long det) {
        long x = det(new Plane(a.off, a.k, a.l, 0), new Plane(b.off, b.k, b.l, 0), new Plane(c.off, c.k, c.l, 0));
        long y = det(new Plane(a.h, a.off, a.l, 0), new Plane(b.h, b.off, b.l, 0), new Plane(c.h, c.off, c.l, 0));
        long z = det(new Plane(a.h, a.k, a.off, 0), new Plane(b.h, b.k, b.off, 0), new Plane(c.h, c.k, c.off, 0));
        return new Point(Fraction.of(x, det), Fraction.of(y, det), Fraction.of(z, det));
    }

    private static List<Point> cut(List<Plane> all) {
        TreeSet<Point> found = new TreeSet<>();
        for (int i = 0; i < all.size(); i++) {
            for (int j = i + 1; j < all.size(); j++) {
                for (int m = j + 1; m < all.size(); m++) {
                    long det = det(all.get(i), all.get(j), all.get(m));
                    if (det != 0) {
                        Point p = crossing(all.get(i), all.get(j), all.get(m), det);
                        boolean left = true;
                        for (Plane other : all) {
                            left = left && other.isBehind(p);
                        }
                        if (left) {
                            found.add(p);
                        }
                    }
                }
            }
        }
        return new ArrayList<>(found);
    }

    private List<Point> corners() {
        if (!planes.equals(cornersFor)) {
            cornersFor = new ArrayList<>(planes);
            cornersKnown = cut(planes);
        }
        return cornersKnown;
    }

    private static boolean areOnOneLine(Point a, Point b, Point c) {
        Fraction[] u = {b.x.plus(a.x.times(-1)), b.y.plus(a.y.times(-1)), b.z.plus(a.z.times(-1))};
        Fraction[] v = {c.x.plus(a.x.times(-1)), c.y.plus(a.y.times(-1)), c.z.plus(a.z.times(-1))};
        for (int i = 0; i < 3; i++) {
            Fraction p = u[i];
            Fraction q = v[(i + 1) % 3];
            Fraction r = u[(i + 1) % 3];
            Fraction s = v[i];
            if (!Fraction.of(p.above * q.above, p.below * q.below).equals(Fraction.of(r.above * s.above, r.below * s.below))) {
                return false;
            }
        }
        return true;
    }

    private static List<Point> on(List<Point> corners, Plane... both) {
        List<Point> found = new ArrayList<>();
        for (Point p : corners) {
            boolean is = true;
            for (Plane plane : both) {
                is = is && plane.isOn(p);
            }
            if (is) {
                found.add(p);
            }
        }
        return found;
    }

    private static boolean shows(List<Plane> all, List<Point> corners, int p) {
        for (int q = 0; q < p; q++) {
            if (all.get(q).isSameAs(all.get(p))) {
                return false;
            }
        }
        List<Point> mine = on(corners, all.get(p));
        for (int i = 0; i < mine.size(); i++) {
            for (int j = i + 1; j < mine.size(); j++) {
                for (int m = j + 1; m < mine.size(); m++) {
                    if (!areOnOneLine(mine.get(i), mine.get(j), mine.get(m))) {
                        return true;
                    }
                }
            }
        }
        return false;
    }

    private boolean shows(int p) {
        return shows(planes, corners(), p);
    }

    private boolean isEdge(int p, int q) {
        return on(corners(), planes.get(p), planes.get(q)).size() >= 2 && shows(p) && shows(q);
    }

    private int edgesOf(int p) {
        int n = 0;
        for (int q = 0; q < planes.size(); q++) {
            n += q != p && isEdge(p, q) ? 1 : 0;
        }
        return n;
    }

    // ---- families

    private static TreeMap<Integer, int[]> gather(int turns, int h, int k, int l) {
        TreeMap<Integer, int[]> known = new TreeMap<>();
        known.put(100 * (h + 3) + 10 * (k + 3) + l + 3, new int[] {h, k, l});
        while (true) {
            TreeMap<Integer, int[]> more = new TreeMap<>(known);
            for (int[] s : known.values()) {
                int[][] six = {{-s[0], -s[1], -s[2]}, {-s[0], s[1], s[2]}, {-s[0], -s[1], s[2]}, {-s[1], s[0], s[2]},
                    {s[2], s[0], s[1]}, {s[1], s[0], s[2]}};
                for (int t = 0; t < 6; t++) {
                    if ((turns >> t & 1) == 1) {
                        more.put(100 * (six[t][0] + 3) + 10 * (six[t][1] + 3) + six[t][2] + 3, six[t]);
                    }
                }
            }
            if (more.size() == known.size()) {
                return known;
            }
            known = more;
        }
    }

    // ---- refusals

    private int refuse(int kind) {
        refused[-2 - kind]++;
        return kind;
    }

    private int bad(int answer) {
        refused[0]++;
        return answer;
    }

    private static boolean in(int v, int from, int to) {
        return v >= from && v <= to;
    }

    private static boolean isSign(int h, int k, int l) {
        return in(h, -3, 3) && in(k, -3, 3) && in(l, -3, 3) && (h != 0 || k != 0 || l != 0);
    }

    private void leave() {
        states.add(new ArrayList<>(planes));
        if (states.size() > 5) {
            states.remove(0);
        }
    }

    // ---- the calls

    int plane(int h, int k, int l, int off) {
        if (!isSign(h, k, l) || !in(off, 1, 60)) {
            return refuse(-2);
        }
        if (planes.size() == 32) {
            return refuse(-4);
        }
        leave();
        planes.add(new Plane(h, k, l, off));
        return planes.size() - 1;
    }

    int family(int turns, int h, int k, int l, int off) {
        if (!in(turns, 0, 63) || !isSign(h, k, l) || !in(off, 1, 60)) {
            return refuse(-2);
        }
        TreeMap<Integer, int[]> signs = gather(turns, h, k, l);
        if (planes.size() + signs.size() > 32) {
            return refuse(-4);
        }
        leave();
        for (int[] s : signs.values()) {
            planes.add(new Plane(s[0], s[1], s[2], off));
        }
        return signs.size();
    }

    int off(int p, int v) {
        if (!in(p, 0, planes.size() - 1) || !in(v, 1, 60)) {
            return refuse(-2);
        }
        leave();
        Plane was = planes.get(p);
        planes.set(p, new Plane(was.h, was.k, was.l, v));
        return was.off;
    }

    int drop(int p) {
        if (!in(p, 6, planes.size() - 1)) {
            return refuse(-2);
        }
        leave();
        planes.remove(p);
        return planes.size();
    }

    int anew() {
        leave();
        int were = planes.size();
        planes = box();
        return were;
    }

    int draw(int seed, int n) {
        if (!in(seed, 0, 999999) || !in(n, 1, 26)) {
            return refuse(-2);
        }
        leave();
        planes = new ArrayList<>(planes.subList(0, 6));
        long x = seed;
        for (int i = 0; i < n; i++) {
            x = (x * 1103515245L + 12345) & 0x7fffffffL;
            int h = (int) ((x >> 16) % 7) - 3;
            int k = (int) ((x >> 10) % 7) - 3;
            int l = (int) ((x >> 15) % 7) - 3;
            planes.add(new Plane(h == 0 && k == 0 && l == 0 ? 1 : h, k, l, (int) (10 + (x >> 9) % 31)));
        }
        return corners().size();
    }

    int of(int p, int what) {
        if (!in(p, 0, planes.size() - 1) || !in(what, 0, 6)) {
            return bad(-100);
        }
        Plane plane = planes.get(p);
        return switch (what) {
            case 0 -> plane.h;
            case 1 -> plane.k;
            case 2 -> plane.l;
            case 3 -> plane.off;
            case 4 -> shows(p) ? 1 : 0;
            case 5 -> on(corners(), plane).size();
            default -> edgesOf(p);
        };
    }

    int member(int turns, int h, int k, int l, int m) {
        if (!in(turns, 0, 63) || !isSign(h, k, l) || m < -1) {
            return bad(-10);
        }
        List<Integer> codes = new ArrayList<>(gather(turns, h, k, l).keySet());
        return m == -1 ? codes.size() : m < codes.size() ? codes.get(m) : -5;
    }

    int all(int what) {
        if (!in(what, 0, 6)) {
            return refuse(-2);
        }
        int showing = 0;
        int edges = 0;
        int mostCorners = 0;
        int mostPlanes = 0;
        for (int p = 0; what != 0 && p < planes.size(); p++) {
            if (shows(p)) {
                showing++;
                mostCorners = Math.max(mostCorners, on(corners(), planes.get(p)).size());
                edges += what == 4 ? edgesOf(p) : 0;
            }
        }
        for (Point c : what == 6 ? corners() : List.<Point>of()) {
            int n = 0;
            for (int p = 0; p < planes.size(); p++) {
                n += planes.get(p).isOn(c) && shows(p) ? 1 : 0;
            }
            mostPlanes = Math.max(mostPlanes, n);
        }
        return switch (what) {
            case 0 -> planes.size();
            case 1 -> showing;
            case 2 -> planes.size() - showing;
            case 3 -> corners().size();
            case 4 -> edges / 2;
            case 5 -> mostCorners;
            default -> mostPlanes;
        };
    }

    private static Fraction coordinate(Point p, int a) {
        return a == 0 ? p.x : a == 1 ? p.y : p.z;
    }

    int corner(int j, int a) {
        if (j < 0 || !in(a, 0, 2)) {
            return refuse(-2);
        }
        if (j >= corners().size()) {
            return refuse(-3);
        }
        fraction = coordinate(corners().get(j), a);
        return 1;
    }

    int meets(int j, int what) {
        if (j < 0 || !in(what, 0, 1)) {
            return refuse(-2);
        }
        if (j >= corners().size()) {
            return -1;
        }
        int n = 0;
        int bits = 0;
        for (int p = 0; p < planes.size(); p++) {
            if (planes.get(p).isOn(corners().get(j))) {
                n++;
                bits |= 1 << p;
            }
        }
        return what == 0 ? n : bits;
    }

    long part(int what) {
        return what == 0 ? fraction.above : what == 1 ? fraction.below : bad(-1000000);
    }

    int edge(int p, int q, int what) {
        if (!in(p, 0, planes.size() - 1) || !in(q, 0, planes.size() - 1) || p == q || !in(what, 0, 4)) {
            return bad(-100);
        }
        Plane a = planes.get(p);
        Plane b = planes.get(q);
        if (what == 4) {
            return on(corners(), a, b).size();
        }
        if (!isEdge(p, q)) {
            return 0;
        }
        int[] way = {a.k * b.l - a.l * b.k, a.l * b.h - a.h * b.l, a.h * b.k - a.k * b.h};
        int g = (int) gcd(gcd(Math.abs(way[0]), Math.abs(way[1])), Math.abs(way[2]));
        int first = Arrays.stream(way).filter(v -> v != 0).findFirst().getAsInt();
        return what == 0 ? 1 : way[what - 1] / g * Integer.signum(first);
    }

    private static Fraction greatest(List<Point> corners, int h, int k, int l) {
        return corners.stream().map(c -> c.along(h, k, l)).max(Fraction::compareTo).get();
    }

    int reach(int h, int k, int l) {
        if (!isSign(h, k, l)) {
            return refuse(-2);
        }
        fraction = greatest(corners(), h, k, l);
        return (int) corners().stream().filter(c -> c.along(h, k, l).equals(fraction)).count();
    }

    int stays(int turn) {
        if (!in(turn, 0, 5)) {
            return refuse(-2);
        }
        TreeSet<Point> turned = new TreeSet<>();
        for (Point c : corners()) {
            turned.add(c.turned(turn));
        }
        return new ArrayList<>(turned).equals(corners()) ? 1 : 0;
    }

    int symmetry() {
        int bits = 0;
        for (int turn = 0; turn < 6; turn++) {
            bits |= stays(turn) << turn;
        }
        return bits;
    }

    int hides(int h, int k, int l, int what) {
        if (!isSign(h, k, l) || !in(what, 0, 1)) {
            return refuse(-2);
        }
        if (planes.size() == 32) {
            return refuse(-4);
        }
        int least = -1;
        int many = 0;
        for (int off = 60; off >= 1; off--) {
            List<Plane> more = new ArrayList<>(planes);
            more.add(new Plane(h, k, l, off));
            List<Point> corners = cut(more);
            if (shows(more, corners, more.size() - 1)) {
                many++;
            } else if (on(corners, more.get(more.size() - 1)).isEmpty()) {
                least = off;
            }
        }
        return what == 0 ? least : many;
    }

    int spare(int what) {
        if (!in(what, 0, 1)) {
            return refuse(-2);
        }
        if (planes.size() == 6) {
            return refuse(-3);
        }
        int best = -1;
        int most = -1;
        for (int p = 6; p < planes.size(); p++) {
            List<Plane> less = new ArrayList<>(planes);
            less.remove(p);
            int left = cut(less).size();
            if (left > most) {
                most = left;
                best = p;
            }
        }
        return what == 0 ? best : most;
    }

    int type(int c) {
        if (!in(c, 0, 127)) {
            return refuse(-2);
        }
        if (text.length() == 120) {
            return refuse(-4);
        }
        text.append((char) c);
        return text.length();
    }

    int clear() {
        int had = text.length();
        text.setLength(0);
        return had;
    }

    int reads() {
        List<Plane> more = new ArrayList<>(planes);
        int fault = fault(text.toString(), more);
        if (fault >= 0) {
            return -10 - fault;
        }
        leave();
        int came = more.size() - planes.size();
        planes = more;
        return came;
    }

    /** Byte by byte, with a step for what is waited for; -1 without a fault. */
    private static int fault(String t, List<Plane> into) {
        String step = "first";
        int told = 0;
        int turns = 0;
        int[] v = new int[3];
        int at = 0;
        int sign = 1;
        int off = 0;
        for (int i = 0; i < t.length(); i++) {
            char c = t.charAt(i);
            if (c == ' ') {
                continue;
            }
            if (step.equals("first")) {
                String one = t.substring(i).split(";", 2)[0];
                step = one.contains(":") ? "turn" : "figure";
                turns = 0;
                at = 0;
                sign = 1;
            }
            if (step.equals("turn") && c >= '0' && c <= '5') {
                turns |= 1 << (c - '0');
            } else if (step.equals("turn") && c == ':' && turns > 0) {
                step = "figure";
            } else if (step.equals("figure") && c == '-' && sign == 1) {
                sign = -1;
            } else if (step.equals("figure") && c >= '0' && c <= '3') {
                v[at++] = sign * (c - '0');
                sign = 1;
                step = at == 3 ? "slash" : "figure";
            } else if (step.equals("slash") && c == '/' && isSign(v[0], v[1], v[2])) {
                step = "off";
            } else if (step.equals("off") && Character.isDigit(c)) {
                int end = i;
                while (end < t.length() && Character.isDigit(t.charAt(end))) {
                    end++;
                }
                if (end - i > 2 || !in(Integer.parseInt(t.substring(i, end)), 1, 60)) {
                    return i;
                }
                off = Integer.parseInt(t.substring(i, end));
                i = end - 1;
                step = "end";
            } else if (step.equals("end") && c == ';') {
                TreeMap<Integer, int[]> signs = gather(turns, v[0], v[1], v[2]);
                if (into.size() + signs.size() > 32) {
                    return i;
                }
                for (int[] s : signs.values()) {
                    into.add(new Plane(s[0], s[1], s[2], off));
                }
                told++;
                step = "first";
            } else {
                return i;
            }
        }
        return told > 0 && step.equals("first") ? -1 : t.length();
    }

    int back() {
        if (states.isEmpty()) {
            return refuse(-3);
        }
        planes = states.remove(states.size() - 1);
        return states.size();
    }

    int told(int what) {
        return switch (what) {
            case 0, 1, 2 -> refused[what];
            case 3 -> text.length();
            case 4 -> planes.size();
            case 5 -> states.size();
            default -> refuse(-2);
        };
    }

    long digest() {
        List<Long> values = new ArrayList<>();
        for (int what = 0; what <= 5; what++) {
            values.add((long) told(what));
        }
        for (int p = 0; p < planes.size(); p++) {
            for (int what = 0; what <= 4; what++) {
                values.add((long) of(p, what));
            }
        }
        values.addAll(List.of((long) all(1), (long) all(3), (long) all(4), fraction.above, fraction.below));
        for (Point c : corners()) {
            for (int a = 0; a < 3; a++) {
                values.add(coordinate(c, a).above);
                values.add(coordinate(c, a).below);
            }
        }
        long h = 2179;
        for (long v : values) {
            h = 31 * h + v;
        }
        return h;
    }
}
