import java.util.Random;

/** Runs of calls that a fixed seed draws, each answer beside the oracle's. */
public final class RandomRunsTest {
    private static final Checks C = new Checks("RandomRunsTest");
    private static final int[] ODD = {Integer.MIN_VALUE, Integer.MIN_VALUE + 1, -1000000, -101, -4, -2, -1, 4, 7, 26, 27, 31, 32,
        33, 60, 61, 63, 64, 119, 120, 121, 127, 128, 999999, 1000000, Integer.MAX_VALUE - 1, Integer.MAX_VALUE};
    private static final String[] LINES = {"111/30;", "0:111/25;", "012345:110/27;", "4:123/40;", "13:1 2 -1 / 33;", "012345:111/31;",
        "-1 0 2/18;", "345:012/44;", "2:-113/9;", "0-10/12;"};

    private final Random r;
    private final CrystalCuts x = new CrystalCuts();
    private final Oracle o = new Oracle();
    private final StringBuilder story = new StringBuilder();

    private RandomRunsTest(long seed) {
        r = new Random(seed);
    }

    public static void main(String[] args) {
        int runs = args.length > 1 ? Integer.parseInt(args[1]) : 100;
        int first = args.length > 2 ? Integer.parseInt(args[2]) : 0;
        for (int i = 0; i < runs && C.wrongSoFar() == 0; i++) {
            new RandomRunsTest(first + i).play(i % 4);
        }
        C.end();
    }

    private void due(String call, long got, long want) {
        story.append(call).append(" = ").append(want).append('\n');
        C.due(call, got, want);
        if (got != want) {
            System.out.println("the run:\n" + story);
        }
    }

    private int pick(int from, int to) {
        return r.nextInt(25) == 0 ? ODD[r.nextInt(ODD.length)] : from + r.nextInt(to - from + 1);
    }

    private int[] sign() {
        int most = 1 + r.nextInt(3);
        int[] s = {pick(-most, most), pick(-most, most), pick(-most, most)};
        if (s[0] == 0 && s[1] == 0 && s[2] == 0 && r.nextInt(10) != 0) {
            s[r.nextInt(3)] = 1;
        }
        return s;
    }

    private int someOff() {
        return r.nextInt(3) == 0 ? pick(1, 60) : pick(15, 45);
    }

    private void play(int kind) {
        if (kind == 1) {
            many();
        }
        for (int i = 0; i < 60 && C.wrongSoFar() == 0; i++) {
            if (kind == 2) {
                texts();
            } else {
                change();
            }
            for (int j = r.nextInt(4); j >= 0; j--) {
                look();
            }
        }
        long sum = o.digest();
        due("digest()", x.digest(), sum);
    }

    /** Families of nice signs and OFFS, so that many planes meet in one corner. */
    private void many() {
        int[] nice = {20, 20, 30, 40, 25, 60, 10};
        for (int i = 0; i < 4; i++) {
            int turns = r.nextInt(64);
            int h = r.nextInt(3);
            int k = r.nextInt(3);
            int off = nice[r.nextInt(nice.length)];
            due("family(" + turns + ", " + h + ", " + k + ", 1, " + off + ")", x.family(turns, h, k, 1, off), o.family(turns, h, k, 1, off));
            looks();
        }
    }

    private void looks() {
        due("digest()", x.digest(), o.digest());
        due("symmetry()", x.symmetry(), o.symmetry());
        for (int what = 0; what <= 6; what++) {
            due("all(" + what + ")", x.all(what), o.all(what));
        }
    }

    private void change() {
        int[] s = sign();
        int off = someOff();
        switch (r.nextInt(12)) {
            case 0, 1, 2 -> due("plane(" + s[0] + ", " + s[1] + ", " + s[2] + ", " + off + ")", x.plane(s[0], s[1], s[2], off),
                o.plane(s[0], s[1], s[2], off));
            case 3, 4 -> {
                int t = pick(0, 63);
                due("family(" + t + ", " + s[0] + ", " + s[1] + ", " + s[2] + ", " + off + ")", x.family(t, s[0], s[1], s[2], off),
                    o.family(t, s[0], s[1], s[2], off));
            }
            case 5, 6 -> {
                int p = pick(0, o.told(4));
                due("off(" + p + ", " + off + ")", x.off(p, off), o.off(p, off));
            }
            case 7, 8 -> {
                int p = pick(4, o.told(4));
                due("drop(" + p + ")", x.drop(p), o.drop(p));
            }
            case 9 -> {
                if (r.nextInt(4) == 0) {
                    due("anew()", x.anew(), o.anew());
                } else {
                    int seed = pick(0, 999999);
                    int n = pick(1, 26);
                    due("draw(" + seed + ", " + n + ")", x.draw(seed, n), o.draw(seed, n));
                }
            }
            case 10 -> due("back()", x.back(), o.back());
            default -> texts();
        }
    }

    private void texts() {
        if (r.nextInt(3) != 0) {
            due("clear()", x.clear(), o.clear());
        }
        StringBuilder t = new StringBuilder();
        for (int i = r.nextInt(3); i >= 0; i--) {
            t.append(LINES[r.nextInt(LINES.length)]);
        }
        String bytes = "0123456789-/:; ;:/00";
        for (int i = r.nextInt(3); i > 0; i--) {
            int at = r.nextInt(t.length());
            switch (r.nextInt(4)) {
                case 0 -> t.setCharAt(at, bytes.charAt(r.nextInt(bytes.length())));
                case 1 -> t.insert(at, bytes.charAt(r.nextInt(bytes.length())));
                case 2 -> t.insert(at, ' ');
                default -> t.setLength(Math.max(1, at));
            }
        }
        for (int i = 0; i < t.length(); i++) {
            int c = r.nextInt(400) == 0 ? pick(0, 127) : t.charAt(i);
            due("type(" + c + ")", x.type(c), o.type(c));
        }
        due("reads() of " + t, x.reads(), o.reads());
        if (o.told(4) > 20) {
            due("back()", x.back(), o.back());
        }
    }

    private void look() {
        int[] s = sign();
        int p = pick(0, o.told(4));
        int q = pick(0, o.told(4));
        switch (r.nextInt(16)) {
            case 0, 1 -> {
                int what = pick(0, 6);
                due("of(" + p + ", " + what + ")", x.of(p, what), o.of(p, what));
            }
            case 2 -> {
                int t = pick(0, 63);
                int m = pick(-1, 12);
                due("member(" + t + ", " + s[0] + ", " + s[1] + ", " + s[2] + ", " + m + ")", x.member(t, s[0], s[1], s[2], m),
                    o.member(t, s[0], s[1], s[2], m));
            }
            case 3 -> {
                int what = pick(0, 6);
                due("all(" + what + ")", x.all(what), o.all(what));
            }
            case 4, 5 -> {
                int j = pick(0, 20);
                int a = pick(0, 2);
                due("corner(" + j + ", " + a + ")", x.corner(j, a), o.corner(j, a));
            }
            case 6 -> {
                int j = pick(0, 20);
                int what = pick(0, 1);
                due("meets(" + j + ", " + what + ")", x.meets(j, what), o.meets(j, what));
            }
            case 7 -> {
                int what = pick(0, 1);
                due("part(" + what + ")", x.part(what), o.part(what));
            }
            case 8, 9 -> {
                int what = pick(0, 4);
                due("edge(" + p + ", " + q + ", " + what + ")", x.edge(p, q, what), o.edge(p, q, what));
            }
            case 10 -> due("reach(" + s[0] + ", " + s[1] + ", " + s[2] + ")", x.reach(s[0], s[1], s[2]), o.reach(s[0], s[1], s[2]));
            case 11 -> {
                int turn = pick(0, 5);
                due("stays(" + turn + ")", x.stays(turn), o.stays(turn));
                due("symmetry()", x.symmetry(), o.symmetry());
            }
            case 12 -> {
                int what = pick(0, 1);
                due("hides(" + s[0] + ", " + s[1] + ", " + s[2] + ", " + what + ")", x.hides(s[0], s[1], s[2], what),
                    o.hides(s[0], s[1], s[2], what));
            }
            case 13 -> {
                int what = pick(0, 1);
                due("spare(" + what + ")", x.spare(what), o.spare(what));
            }
            case 14 -> {
                int what = pick(0, 5);
                due("told(" + what + ")", x.told(what), o.told(what));
            }
            default -> due("digest()", x.digest(), o.digest());
        }
    }
}
