import java.util.TreeSet;

/** The document's Terms, sentence by sentence; those of THE TEXT and STATES stand in TextBoundsTest. */
public final class TermsTest {
    private static final Checks C = new Checks("TermsTest");
    private static final SideBySide S = new SideBySide(C);

    public static void main(String[] args) {
        C.runAll(TermsTest.class);
        C.end();
    }

    private static void plane(CrystalCuts x, int p, int... want) {
        for (int what = 0; what <= 3; what++) {
            C.due("of(" + p + ", " + what + ")", x.of(p, what), want[what]);
        }
    }

    private static CrystalCuts boxOf(int off) {
        CrystalCuts x = new CrystalCuts();
        for (int p = 0; p < 6; p++) {
            x.off(p, off);
        }
        return x;
    }

    // ---- planes

    private static void t01Box() {
        C.terms("0 to 5 are the BOX: (1,0,0), (-1,0,0), (0,1,0), (0,-1,0), (0,0,1), (0,0,-1), each OFF 20");
        CrystalCuts x = new CrystalCuts();
        int[][] box = {{1, 0, 0}, {-1, 0, 0}, {0, 1, 0}, {0, -1, 0}, {0, 0, 1}, {0, 0, -1}};
        for (int p = 0; p < 6; p++) {
            plane(x, p, box[p][0], box[p][1], box[p][2], 20);
        }
        C.due("all(0)", x.all(0), 6);
    }

    private static void t02AsTheyCome() {
        C.terms("others as they come");
        CrystalCuts x = new CrystalCuts();
        x.plane(3, 0, 0, 60);
        x.family(0, -3, 0, 0, 1);
        x.plane(3, 0, 0, 60);
        plane(x, 6, 3, 0, 0, 60);
        plane(x, 7, -3, 0, 0, 1);
        plane(x, 8, 3, 0, 0, 60);
    }

    private static void t03Signs() {
        C.terms("a SIGN (h, k, l; each -3 .. 3, not all 0)");
        CrystalCuts x = new CrystalCuts();
        int bads = 0;
        for (int h = -4; h <= 4; h++) {
            // A new one each time, so that none is used too often.
            for (int k = -4; k <= 4; k++) {
                x = new CrystalCuts();
                bads = 0;
                for (int l = -4; l <= 4; l++) {
                    boolean is = Math.max(Math.max(Math.abs(h), Math.abs(k)), Math.abs(l)) <= 3 && (h != 0 || k != 0 || l != 0);
                    String sign = "(" + h + ", " + k + ", " + l + ")";
                    C.due("plane " + sign, x.plane(h, k, l, 30), is ? 6 : -2);
                    C.due("told(5) of " + sign, x.told(5), is ? 1 : 0);
                    C.holds("back() of " + sign, !is || x.back() == 0);
                    C.due("family " + sign, x.family(0, h, k, l, 30), is ? 1 : -2);
                    C.holds("back() of " + sign, !is || x.back() == 0);
                    C.due("member " + sign, x.member(0, h, k, l, -1), is ? 1 : -10);
                    C.due("reach " + sign, x.reach(h, k, l) > 0 ? 1 : 0, is ? 1 : 0);
                    C.due("hides " + sign, x.hides(h, k, l, 1) >= 0 ? 1 : 0, is ? 1 : 0);
                    bads += is ? 0 : 5;
                    C.due("told(0) of " + sign, x.told(0), bads);
                }
            }
        }
    }

    private static void t04Offs() {
        C.terms("and OFF (1 .. 60)");
        for (int v = -2; v <= 63; v++) {
            CrystalCuts x = new CrystalCuts();
            boolean is = v >= 1 && v <= 60;
            C.due("plane, " + v, x.plane(1, 2, 3, v), is ? 6 : -2);
            C.due("family, " + v, x.family(0, 1, 2, 3, v), is ? 1 : -2);
            C.due("off, " + v, x.off(0, v), is ? 20 : -2);
            C.due("told(0), " + v, x.told(0), is ? 0 : 3);
            C.due("told(4), " + v, x.told(4), is ? 8 : 6);
            C.due("told(5), " + v, x.told(5), is ? 3 : 0);
            C.due("of(0, 3), " + v, x.of(0, 3), is ? v : 20);
            C.due("of(6, 3), " + v, x.of(6, 3), is ? v : -100);
            C.due("of(7, 3), " + v, x.of(7, 3), is ? v : -100);
        }
    }

    private static void t05Behind() {
        C.terms("BEHIND a PLANE, if h x and k y and l z together are OFF or less");
        int[] offs = {57, 58, 59, 60};
        int[] corners = {10, 10, 10, 8};
        for (int i = 0; i < offs.length; i++) {
            CrystalCuts x = new CrystalCuts();
            x.plane(1, 1, 1, offs[i]);
            C.due("OFF " + offs[i] + ", corners", x.all(3), corners[i]);
            C.due("OFF " + offs[i] + ", reach", x.reach(1, 1, 1), offs[i] == 60 ? 1 : 3);
            C.due("OFF " + offs[i] + ", how far", x.part(0), offs[i]);
        }
        // By a part of one: 3 x up to 59 takes the corners at x 20 nearer.
        CrystalCuts y = new CrystalCuts();
        y.plane(3, 0, 0, 59);
        C.due("of(0, 5)", y.of(0, 5), 0);
        C.due("of(6, 5)", y.of(6, 5), 4);
        y.off(6, 60);
        C.due("of(0, 5)", y.of(0, 5), 4);
        C.due("of(6, 5)", y.of(6, 5), 4);
    }

    private static void t06On() {
        C.terms("ON it, if they are just that");
        CrystalCuts x = new CrystalCuts();
        x.plane(1, 1, 1, 60);
        C.due("just touched", x.meets(7, 1), 1 | 4 | 16 | 64);
        C.due("of(6, 5)", x.of(6, 5), 1);
        x.off(6, 20);
        // x + y + z = 20 goes through three corners of the box, and leaves them.
        C.due("of(6, 5)", x.of(6, 5), 3);
        C.due("all(3)", x.all(3), 7);
        x.off(6, 21);
        C.due("of(6, 5)", x.of(6, 5), 3);
        C.due("all(3)", x.all(3), 10);
        x.off(6, 19);
        C.due("of(6, 5)", x.of(6, 5), 6);
        C.due("all(3)", x.all(3), 10);
    }

    // ---- corners, edges

    private static void t07Determinant() {
        C.terms("ON three PLANES or more whose SIGNS are not all of one plane (their determinant is not 0)");
        CrystalCuts x = new CrystalCuts();
        // Three planes through one edge of the box: its points are ON all three, but only its ends are CORNERS.
        x.plane(1, 1, 0, 40);
        x.plane(2, 1, 0, 60);
        C.due("all(3)", x.all(3), 8);
        C.due("meets(7, 0)", x.meets(7, 0), 5);
        C.due("edge(0, 2, 4)", x.edge(0, 2, 4), 2);
        C.due("edge(6, 7, 4)", x.edge(6, 7, 4), 2);
        C.due("edge(6, 7, 0)", x.edge(6, 7, 0), 0);
        // Twins: the same plane three times over makes no corner.
        CrystalCuts y = new CrystalCuts();
        y.plane(1, 0, 0, 20);
        y.plane(2, 0, 0, 40);
        y.plane(3, 0, 0, 60);
        C.due("all(3)", y.all(3), 8);
        C.due("meets(7, 1)", y.meets(7, 1), 1 | 4 | 16 | 64 | 128 | 256);
    }

    private static void t08OnePointOneCorner() {
        C.terms("each point is one CORNER");
        CrystalCuts x = new CrystalCuts();
        x.family(63, 1, 1, 1, 20);
        C.due("octahedron", x.all(3), 6);
        C.due("ON four and one of the BOX", x.meets(0, 0), 5);
        CrystalCuts y = new CrystalCuts();
        for (int p = 6; p < 32; p++) {
            y.plane(1, 1, 1, 60);
        }
        C.due("26 planes through one corner", y.all(3), 8);
        C.due("meets(7, 0)", y.meets(7, 0), 29);
    }

    private static void t09Order() {
        C.terms("They are in order by x, then y, then z.");
        int[][] draws = {{1, 26}, {7, 20}, {999999, 26}, {31337, 15}, {4, 9}};
        for (int[] d : draws) {
            CrystalCuts x = new CrystalCuts();
            int corners = x.draw(d[0], d[1]);
            long[] before = null;
            for (int j = 0; j < corners; j++) {
                long[] now = new long[6];
                for (int a = 0; a < 3; a++) {
                    x.corner(j, a);
                    now[2 * a] = x.part(0);
                    now[2 * a + 1] = x.part(1);
                }
                if (before != null) {
                    C.holds("draw(" + d[0] + ", " + d[1] + "), " + j + " behind " + (j - 1), compare(before, now) < 0);
                }
                before = now;
            }
        }
        // z alone differs, y alone differs, x alone differs.
        CrystalCuts y = new CrystalCuts();
        int[][] due = {{-20, -20, -20}, {-20, -20, 20}, {-20, 20, -20}, {-20, 20, 20}, {20, -20, -20}, {20, -20, 20}, {20, 20, -20},
            {20, 20, 20}};
        for (int j = 0; j < 8; j++) {
            for (int a = 0; a < 3; a++) {
                y.corner(j, a);
                C.due("corner(" + j + ", " + a + ")", y.part(0), due[j][a]);
            }
        }
    }

    private static int compare(long[] a, long[] b) {
        for (int i = 0; i < 6; i += 2) {
            int c = Long.compare(a[i] * b[i + 1], b[i] * a[i + 1]);
            if (c != 0) {
                return c;
            }
        }
        return 0;
    }

    private static void t10Shows() {
        C.terms("A PLANE SHOWS, if three CORNERS or more are ON it that do not lie on one line; else it is HIDDEN");
        CrystalCuts x = new CrystalCuts();
        int p = x.plane(1, 1, 1, 60);
        int q = x.plane(1, 1, 0, 40);
        int r = x.plane(2, 2, 0, 60);
        // r takes away what p and q touch.
        int[][] due = {{p, 0, 0, 0}, {q, 0, 0, 0}, {r, 1, 4, 4}};
        for (int[] d : due) {
            C.due("SHOWS " + d[0], x.of(d[0], 4), d[1]);
            C.due("CORNERS ON " + d[0], x.of(d[0], 5), d[2]);
            C.due("EDGES of " + d[0], x.of(d[0], 6), d[3]);
        }
        x.drop(r);
        int[][] then = {{p, 0, 1, 0}, {q, 0, 2, 0}};
        for (int[] d : then) {
            C.due("SHOWS " + d[0], x.of(d[0], 4), d[1]);
            C.due("CORNERS ON " + d[0], x.of(d[0], 5), d[2]);
            C.due("EDGES of " + d[0], x.of(d[0], 6), d[3]);
        }
        x.off(p, 59);
        C.due("three CORNERS", x.of(p, 5), 3);
        C.due("SHOWS", x.of(p, 4), 1);
        C.due("all(2)", x.all(2), 1);
    }

    private static void t11SamePlane() {
        C.terms("of PLANES that are the same plane (the same points are ON them) just the first one SHOWS");
        CrystalCuts x = new CrystalCuts();
        x.plane(2, 2, 2, 40);
        x.plane(3, 3, 3, 60);
        x.plane(1, 1, 1, 20);
        // 6, 7 and 8 are the same plane.
        for (int left = 3; left >= 1; left--) {
            for (int i = 0; i < left; i++) {
                C.due(left + " alike, SHOWS " + i, x.of(6 + i, 4), i == 0 ? 1 : 0);
                C.due(left + " alike, CORNERS " + i, x.of(6 + i, 5), 3);
                C.due(left + " alike, EDGES " + i, x.of(6 + i, 6), i == 0 ? 3 : 0);
            }
            C.due(left + " alike, all(1)", x.all(1), 7);
            C.due(left + " alike, all(2)", x.all(2), left - 1);
            x.drop(6);
        }
        CrystalCuts y = new CrystalCuts();
        y.plane(1, 0, 0, 20);
        C.due("one of the BOX is the first", y.of(6, 4), 0);
        C.due("one of the BOX SHOWS", y.of(0, 4), 1);
        y.off(0, 21);
        C.due("no longer the same", y.of(6, 4), 1);
        C.due("one of the BOX is HIDDEN", y.of(0, 4), 0);
        y.off(6, 22);
        C.due("nor now", y.of(6, 4), 0);
        C.due("nor now", y.of(0, 4), 1);
    }

    private static void t12NotTheSame() {
        C.terms("the same points are ON them");
        int[][] pairs = {{1, 1, 1, 20, 2, 2, 2, 41}, {1, 1, 1, 20, -1, -1, -1, 20}, {1, 1, 0, 20, 1, 1, 1, 20}, {1, 0, 1, 10, 2, 0, 1, 20},
            {1, 1, 0, 10, 2, 1, 0, 20}, {0, 1, 1, 10, 0, 2, 1, 20}};
        for (int[] t : pairs) {
            CrystalCuts x = new CrystalCuts();
            Oracle o = new Oracle();
            x.plane(t[0], t[1], t[2], t[3]);
            o.plane(t[0], t[1], t[2], t[3]);
            x.plane(t[4], t[5], t[6], t[7]);
            o.plane(t[4], t[5], t[6], t[7]);
            for (int p = 0; p < 8; p++) {
                C.due("SHOWS " + p, x.of(p, 4), o.of(p, 4));
            }
        }
    }

    private static void t13Edges() {
        C.terms("EDGES: pairs of PLANES that SHOW with two CORNERS or more ON both of them.");
        CrystalCuts x = new CrystalCuts();
        x.family(63, 1, 1, 1, 20);
        int edges = 0;
        for (int p = 0; p < 14; p++) {
            int mine = 0;
            for (int q = 0; q < 14; q++) {
                if (p != q) {
                    int shared = x.edge(p, q, 4);
                    int want = shared >= 2 && x.of(p, 4) == 1 && x.of(q, 4) == 1 ? 1 : 0;
                    mine += want;
                }
            }
            C.due("EDGES of " + p, x.of(p, 6), mine);
            C.due("EDGES of " + p, mine, p < 6 ? 0 : 3);
            edges += mine;
        }
        CrystalCuts y = new CrystalCuts();
        y.family(63, 1, 1, 1, 20);
        C.due("all(4)", y.all(4), edges / 2);
        C.due("two corners", y.edge(6, 7, 4), 2);
        C.due("an EDGE", y.edge(6, 7, 0), 1);
        C.due("one corner", y.edge(6, 9, 4), 1);
        C.due("no EDGE", y.edge(6, 9, 0), 0);
        y.plane(2, 2, 2, 40);
        C.due("a twin, two corners", y.edge(12, 14, 4), 2);
        C.due("a twin, no EDGE", y.edge(12, 14, 0), 0);
    }

    // ---- turns

    private static int code(int h, int k, int l) {
        return 100 * (h + 3) + 10 * (k + 3) + l + 3;
    }

    private static int turned(int turn, int h, int k, int l) {
        return switch (turn) {
            case 0 -> code(-h, -k, -l);
            case 1 -> code(-h, k, l);
            case 2 -> code(-h, -k, l);
            case 3 -> code(-k, h, l);
            case 4 -> code(l, h, k);
            default -> code(k, h, l);
        };
    }

    private static void t14EachTurn() {
        C.terms("TURNS: 0 through the middle (-h, -k, -l), 1 mirror (-h, k, l), 2 half turn (-h, -k, l), 3 quarter turn (-k, h, l), 4 third turn (l, h, k), 5 mirror (k, h, l)");
        int[] sizes = {2, 2, 2, 4, 3, 2};
        CrystalCuts x = new CrystalCuts();
        for (int turn = 0; turn <= 5; turn++) {
            C.due("how many by " + turn, x.member(1 << turn, 1, 2, 3, -1), sizes[turn]);
            TreeSet<Integer> found = new TreeSet<>();
            for (int m = 0; m < sizes[turn]; m++) {
                found.add(x.member(1 << turn, 1, 2, 3, m));
            }
            C.holds("itself, by " + turn, found.contains(code(1, 2, 3)));
            C.holds("turned by " + turn, found.contains(turned(turn, 1, 2, 3)));
        }
    }

    private static void t15SetsAsBits() {
        C.terms("A set of them told as bits.");
        CrystalCuts x = new CrystalCuts();
        C.due("no TURN", x.member(0, 1, 2, 3, -1), 1);
        C.due("all TURNS", x.member(63, 1, 2, 3, -1), 48);
        C.due("the last TURN alone", x.member(32, 1, 2, 3, 1), code(2, 1, 3));
        C.due("the first TURN alone", x.member(1, 1, 2, 3, 0), code(-1, -2, -3));
        for (int v : new int[] {-1, 64, Integer.MIN_VALUE, Integer.MAX_VALUE, 1 << 31 | 1}) {
            C.due("member(" + v + ", ..)", x.member(v, 1, 2, 3, -1), -10);
            C.due("family(" + v + ", ..)", x.family(v, 1, 2, 3, 30), -2);
        }
    }

    private static void t16FamilyAsOftenAsMayBe() {
        C.terms("FAMILY of a SIGN by a set: all SIGNS that come of it by TURNS of the set, one after the other, as often as may be; in order by h, then k, then l");
        for (int set = 0; set <= 63; set++) {
            for (int[] s : new int[][] {{1, 2, 3}, {-3, 0, 2}, {0, 0, -1}, {3, 3, -3}, {1, 1, 0}}) {
                TreeSet<Integer> due = closure(set, s);
                CrystalCuts x = new CrystalCuts();
                String told = "member(" + set + ", " + s[0] + ", " + s[1] + ", " + s[2] + ", ";
                C.due(told + "-1)", x.member(set, s[0], s[1], s[2], -1), due.size());
                int m = 0;
                for (int want : due) {
                    C.due(told + m + ")", x.member(set, s[0], s[1], s[2], m), want);
                    m++;
                }
                C.due(told + m + ")", x.member(set, s[0], s[1], s[2], m), -5);
            }
        }
    }

    private static TreeSet<Integer> closure(int set, int[] s) {
        TreeSet<Integer> found = new TreeSet<>();
        found.add(code(s[0], s[1], s[2]));
        for (int round = 0; round < 50; round++) {
            for (int c : found.toArray(new Integer[0])) {
                for (int turn = 0; turn <= 5; turn++) {
                    if ((set >> turn & 1) == 1) {
                        found.add(turned(turn, c / 100 - 3, c / 10 % 10 - 3, c % 10 - 3));
                    }
                }
            }
        }
        return found;
    }

    // ---- refusals

    private static void t17TheFirstOf() {
        C.terms("Refused, changing nothing but how often, the first of: BAD -2 a number is not as told; NO -3 as told; FULL -4 PLANES would be more than 32.");
        int bads = SideBySide.BADS;
        S.refused(Start.FULL, bads, -2, "plane: BAD ahead of FULL", x -> x.plane(0, 0, 0, 1));
        S.refused(Start.FULL, bads, -2, "plane: BAD ahead of FULL", x -> x.plane(1, 0, 0, 61));
        S.refused(Start.FULL, bads, -2, "family: BAD ahead of FULL", x -> x.family(64, 1, 2, 3, 1));
        S.refused(Start.FULL, bads, -2, "family: BAD ahead of FULL", x -> x.family(63, 1, 2, 3, 0));
        S.refused(Start.NEW, bads, -2, "family of 48: BAD ahead of FULL", x -> x.family(63, 1, 2, 3, 61));
        S.refused(Start.FULL, bads, -2, "hides: BAD ahead of FULL", x -> x.hides(1, 0, 0, 2));
        S.refused(Start.FULL, bads, -2, "hides: BAD ahead of FULL", x -> x.hides(0, 0, 0, 0));
        S.refused(Start.FULL, bads, -2, "type: BAD ahead of FULL", x -> x.type(128));
        S.refused(Start.NEW, bads, -2, "spare: BAD ahead of NO", x -> x.spare(2));
        S.refused(Start.NEW, bads, -2, "corner: BAD ahead of NO", x -> x.corner(8, 3));
        S.refused(Start.NEW, bads, -2, "corner: BAD ahead of NO", x -> x.corner(8, -1));
    }

    /** Two wrong numbers in one call are one refusal. */
    private static void t18CountedOnce() {
        C.terms("changing nothing but how often");
        int most = Integer.MAX_VALUE;
        int least = Integer.MIN_VALUE;
        for (Start start : Start.values()) {
            int bads = SideBySide.BADS;
            S.refused(start, bads, -2, "plane", x -> x.plane(least, least, most, most));
            S.refused(start, bads, -2, "family", x -> x.family(least, most, least, most, least));
            S.refused(start, bads, -2, "off", x -> x.off(most, least));
            S.refused(start, bads, -2, "draw", x -> x.draw(least, most));
            S.refused(start, bads, -100, "of", x -> x.of(least, most));
            S.refused(start, bads, -10, "member", x -> x.member(most, most, most, most, least));
            S.refused(start, bads, -2, "corner", x -> x.corner(least, most));
            S.refused(start, bads, -2, "meets", x -> x.meets(least, least));
            S.refused(start, bads, -100, "edge", x -> x.edge(most, most, most));
            S.refused(start, bads, -2, "reach", x -> x.reach(least, least, least));
            S.refused(start, bads, -2, "hides", x -> x.hides(most, most, most, most));
        }
    }

    /** Any numbers at all, wherever they are taken or not: each answer beside the oracle's. */
    private static void t19AnyInt() {
        C.terms("BAD -2 a number is not as told");
        int[] values = {Integer.MIN_VALUE, -4, -3, -1, 0, 1, 3, 4, Integer.MAX_VALUE};
        Oracle o = new Oracle();
        CrystalCuts x = new CrystalCuts();
        for (int a : values) {
            for (int b : values) {
                o = new Oracle();
                x = new CrystalCuts();
                for (int v : values) {
                    String args = "(" + a + ", " + b + ", " + v + ")";
                    C.due("reach" + args, x.reach(a, b, v), o.reach(a, b, v));
                    C.due("edge" + args, x.edge(a, b, v), o.edge(a, b, v));
                    C.due("plane" + args, x.plane(a, b, v, 30), o.plane(a, b, v, 30));
                    C.due("hides" + args, x.hides(a, b, 1, v), o.hides(a, b, 1, v));
                    C.due("member" + args, x.member(b, a, 1, 1, v), o.member(b, a, 1, 1, v));
                    C.due("corner" + args, x.corner(a, v), o.corner(a, v));
                    C.due("meets" + args, x.meets(b, v), o.meets(b, v));
                }
                C.due("digest", x.digest(), o.digest());
            }
        }
    }

    // ---- how long an object is used

    private static void t20ToTheLastCall() {
        C.whatItIs("An object is used for at most 512 calls after it has been made");
        CrystalCuts x = new CrystalCuts();
        Oracle o = new Oracle();
        // 512 calls, the last one a digest of all.
        for (int i = 0; i < 511; i++) {
            switch (i % 7) {
                case 0 -> C.due("plane " + i, x.plane(i % 4, i % 3 - 1, 1, 1 + i % 60), o.plane(i % 4, i % 3 - 1, 1, 1 + i % 60));
                case 1 -> C.due("all " + i, x.all(i % 8), o.all(i % 8));
                case 2 -> C.due("type " + i, x.type(i % 130), o.type(i % 130));
                case 3 -> C.due("off " + i, x.off(i % 33, 1 + i % 61), o.off(i % 33, 1 + i % 61));
                case 4 -> C.due("corner " + i, x.corner(i % 20, i % 3), o.corner(i % 20, i % 3));
                case 5 -> C.due("drop " + i, x.drop(i % 40), o.drop(i % 40));
                default -> C.due("back " + i, x.back(), o.back());
            }
        }
        C.due("digest, the 512th call", x.digest(), o.digest());
    }
}
