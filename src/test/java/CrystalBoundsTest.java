/** Promises 10 to 19, sentence by sentence: the last value that is taken, the first that is refused, and what stays. */
public final class CrystalBoundsTest {
    private static final Checks C = new Checks("CrystalBoundsTest");
    private static final SideBySide S = new SideBySide(C);
    private static final int MOST = Integer.MAX_VALUE;
    private static final int[] OUTSIDE_SIGN = Ints.outside(-3, 3);

    /** The corners of Start.USED in order, each coordinate taken twice to be whole. */
    private static final int[][] USED_TWICE = {{-40, -40, 21}, {-40, -40, 40}, {-40, 21, -40}, {-40, 40, -40}, {-40, 40, 40},
        {20, 40, 40}, {21, -40, -40}, {40, -40, -40}, {40, -40, 40}, {40, 20, 40}, {40, 40, -40}, {40, 40, 20}};

    public static void main(String[] args) {
        C.runAll(CrystalBoundsTest.class);
        C.sawPromises(10, 19);
        C.end();
    }

    private static void bad(Start start, int answer, String told, SideBySide.Call call) {
        S.refused(start, SideBySide.BADS, answer, told, call);
    }

    private static void no(Start start, String told, SideBySide.Call call) {
        S.refused(start, SideBySide.NOS, -3, told, call);
    }

    private static CrystalCuts boxOf(int off) {
        CrystalCuts x = new CrystalCuts();
        for (int p = 0; p < 6; p++) {
            x.off(p, off);
        }
        return x;
    }

    // ---- 10: all

    private static void p10Each() {
        C.promise(10, "How many PLANES (0), that SHOW (1), HIDDEN ones (2), CORNERS (3), EDGES (4)");
        int[][] due = {{6, 6, 0, 8, 12, 4, 3}, {10, 8, 2, 12, 18, 5, 3}, {32, 32, 0, 60, 90, 12, 3}};
        for (Start start : Start.values()) {
            C.due(start + ", PLANES", due[start.ordinal()][0], start.planes);
            C.due(start + ", CORNERS", due[start.ordinal()][3], start.corners);
            for (int what = 0; what <= 6; what++) {
                int w = what;
                S.changesNothing(start, due[start.ordinal()][w], "all(" + w + ")", x -> x.all(w));
            }
        }
    }

    private static void p10FewestCorners() {
        C.promise(10, "the most CORNERS ON a PLANE that SHOWS (5)");
        CrystalCuts x = boxOf(60);
        x.plane(1, 1, 1, 10);
        x.plane(1, -1, -1, 10);
        x.plane(-1, 1, -1, 10);
        x.plane(-1, -1, 1, 10);
        // A tetrahedron: the fewest planes, corners and edges that can be.
        int[] due = {10, 4, 6, 4, 6, 3, 3};
        for (int what = 0; what <= 6; what++) {
            C.due("tetrahedron, all(" + what + ")", x.all(what), due[what]);
        }
        // Planes that do not SHOW have corners ON them, too, but are not counted.
        CrystalCuts y = new CrystalCuts();
        y.family(63, 1, 1, 1, 20);
        y.plane(1, 0, 0, 20);
        C.due("octahedron, all(5)", y.all(5), 3);
    }

    private static void p10MostPlanesOnCorner() {
        C.promise(10, "the most PLANES that SHOW ON a CORNER (6)");
        CrystalCuts x = new CrystalCuts();
        x.plane(1, 1, 1, 60);
        x.plane(2, 2, 1, 60);
        x.off(0, 10);
        C.due("HIDDEN ones do not count", x.all(6), 3);
        // Eight planes meet at (20, 0, 0) and at five points like it; the BOX touches there, too, and is HIDDEN.
        CrystalCuts y = new CrystalCuts();
        y.family(63, 2, 2, 1, 40);
        int[] due = {30, 24, 6, 14, 36, 3, 8};
        for (int what = 0; what <= 6; what++) {
            C.due("24 planes that meet by eights, all(" + what + ")", y.all(what), due[what]);
        }
        C.due("with a plane of the BOX", y.meets(0, 0), 9);
    }

    /** One plane or one corner alone has the most: the first, the last, each between. */
    private static void p10OneAloneHasTheMost() {
        C.promise(10, "the most CORNERS ON a PLANE that SHOWS (5), the most PLANES that SHOW ON a CORNER (6)");
        for (int p = 0; p < 6; p++) {
            CrystalCuts x = new CrystalCuts();
            int side = p % 2 == 0 ? 1 : -1;
            for (int i = 0; i < 4; i++) {
                int one = i < 2 ? 1 : -1;
                int two = i % 2 == 0 ? 1 : -1;
                x.plane(p / 2 == 0 ? side : one, p / 2 == 1 ? side : p / 2 == 0 ? one : two, p / 2 == 2 ? side : two, 50);
            }
            C.due("all(5), four corners of " + p + " cut off", x.all(5), 8);
            C.due("of(" + p + ", 5)", x.of(p, 5), 8);
        }
        for (int side : new int[] {-1, 1}) {
            CrystalCuts x = roofed(side, 15);
            C.due("four planes at the peak alone, all(6), side " + side, x.all(6), 4);
            C.due("all(3), side " + side, x.all(3), 13);
            C.due("the peak, side " + side, x.meets(side < 0 ? 0 : 12, 0), 5);
        }
    }

    /** A box with a roof of four planes whose peak is at x 30 of one side; it ends at x 10 of the other. */
    private static CrystalCuts roofed(int side, int y) {
        CrystalCuts x = new CrystalCuts();
        x.off(side < 0 ? 1 : 0, 30);
        x.off(side < 0 ? 0 : 1, 10);
        x.off(2, y);
        x.off(3, y);
        x.plane(side, 1, 0, 30);
        x.plane(side, -1, 0, 30);
        x.plane(side, 0, 1, 30);
        x.plane(side, 0, -1, 30);
        return x;
    }

    private static void p10Bad() {
        C.promise(10, "BAD.");
        for (Start start : Start.values()) {
            for (int v : Ints.outside(0, 6)) {
                bad(start, -2, "all(" + v + ")", x -> x.all(v));
            }
        }
    }

    // ---- 11: corner

    private static long[] half(int twice) {
        return twice % 2 == 0 ? new long[] {twice / 2, 1} : new long[] {twice, 2};
    }

    private static void p11Coordinates() {
        C.promise(11, "Coordinate a (0 x, 1 y, 2 z) of the j-th CORNER is THE FRACTION: 1.");
        for (int j = 0; j < USED_TWICE.length; j++) {
            for (int a = 0; a < 3; a++) {
                int at = j;
                int axis = a;
                S.setsFraction(Start.USED, 1, half(USED_TWICE[j][a]), "corner(" + j + ", " + a + ")", x -> x.corner(at, axis));
            }
        }
        for (int a = 0; a < 3; a++) {
            int axis = a;
            S.setsFraction(Start.NEW, 1, new long[] {-20, 1}, "corner(0, " + a + ")", x -> x.corner(0, axis));
            S.setsFraction(Start.NEW, 1, new long[] {20, 1}, "corner(7, " + a + ")", x -> x.corner(7, axis));
        }
        S.setsFraction(Start.FULL, 1, new long[] {10, 1}, "corner(59, 0)", x -> x.corner(59, 0));
    }

    private static void p11NotSoMany() {
        C.promise(11, "NO: not so many.");
        for (Start start : Start.values()) {
            for (int j : new int[] {start.corners, start.corners + 1, 60, 61, 256, 65536, MOST - 1, MOST}) {
                for (int a = 0; a < 3; a++) {
                    int axis = a;
                    no(start, "corner(" + j + ", " + a + ")", x -> x.corner(j, axis));
                }
            }
        }
    }

    private static void p11Bad() {
        C.promise(11, "BAD: j below 0, too.");
        for (Start start : Start.values()) {
            for (int v : Ints.below(0)) {
                bad(start, -2, "corner(" + v + ", 0)", x -> x.corner(v, 0));
            }
            for (int v : Ints.outside(0, 2)) {
                bad(start, -2, "corner(0, " + v + ")", x -> x.corner(0, v));
                bad(start, -2, "corner(60, " + v + "): BAD ahead of NO", x -> x.corner(60, v));
            }
        }
    }

    // ---- 12: meets

    private static void p12HowManyAsBits() {
        C.promise(12, "How many PLANES (that SHOW or not) the j-th CORNER is ON (what 0), as bits (1).");
        int[][] due = {{0, 3, 266}, {10, 4, 165}, {11, 5, 709}};
        for (int[] d : due) {
            S.changesNothing(Start.USED, d[1], "meets(" + d[0] + ", 0)", x -> x.meets(d[0], 0));
            S.changesNothing(Start.USED, d[2], "meets(" + d[0] + ", 1)", x -> x.meets(d[0], 1));
        }
        S.changesNothing(Start.NEW, 42, "meets(0, 1)", x -> x.meets(0, 1));
        S.changesNothing(Start.NEW, 21, "meets(7, 1)", x -> x.meets(7, 1));
        S.changesNothing(Start.FULL, 3, "meets(59, 0)", x -> x.meets(59, 0));
    }

    private static void p12TheLastBit() {
        C.promise(12, "as bits (1)");
        CrystalCuts x = new CrystalCuts();
        for (int p = 6; p < 31; p++) {
            x.plane(-1, -1, -1, 1);
            x.off(p, 60);
        }
        C.due("31 planes", x.meets(0, 1), 42 | (Integer.MAX_VALUE & -64));
        x.plane(-2, -1, 0, 60);
        C.due("the last is ON (-20, -20, -20)", x.meets(0, 1), 42 | -64);
        C.due("how many", x.meets(0, 0), 3 + 26);
        x.off(31, 59);
        C.due("it takes the corner away: ON its own corners alone", x.meets(0, 1) >>> 31, 1);
        C.due("not ON the last corner", x.meets(x.all(3) - 1, 1) >>> 31, 0);
    }

    private static void p12None() {
        C.promise(12, "NONE: not so many.");
        for (Start start : Start.values()) {
            for (int j : new int[] {start.corners, start.corners + 1, 60, 61, 256, 65536, MOST - 1, MOST}) {
                S.changesNothing(start, -1, "meets(" + j + ", 0)", x -> x.meets(j, 0));
                S.changesNothing(start, -1, "meets(" + j + ", 1)", x -> x.meets(j, 1));
            }
        }
    }

    private static void p12Bad() {
        C.promise(12, "BAD: j below 0, too.");
        for (Start start : Start.values()) {
            for (int v : Ints.below(0)) {
                bad(start, -2, "meets(" + v + ", 0)", x -> x.meets(v, 0));
                bad(start, -2, "meets(" + v + ", 1)", x -> x.meets(v, 1));
            }
            for (int v : Ints.outside(0, 1)) {
                bad(start, -2, "meets(0, " + v + ")", x -> x.meets(0, v));
                bad(start, -2, "meets(60, " + v + "): BAD ahead of NONE", x -> x.meets(60, v));
            }
        }
    }

    // ---- 13: part

    private static void p13AtFirst() {
        C.promise(13, "0 by 1 at first");
        CrystalCuts x = new CrystalCuts();
        x.plane(1, 1, 1, 30);
        x.meets(0, 0);
        x.hides(1, 2, 1, 0);
        x.corner(60, 0);
        x.reach(4, 0, 0);
        C.due("part(0)", x.part(0), 0);
        C.due("part(1)", x.part(1), 1);
    }

    private static void p13LowestTerms() {
        C.promise(13, "in lowest terms, below above 0");
        CrystalCuts x = new CrystalCuts();
        x.plane(-2, 0, 0, 7);
        x.plane(0, 2, 0, 8);
        // x from -7/2 to 20, y to 4.
        long[][] due = {{-7, 2}, {-20, 1}, {-20, 1}, {20, 1}, {4, 1}, {20, 1}};
        for (int i = 0; i < 6; i++) {
            C.due("corner(" + (i < 3 ? 0 : 7) + ", " + i % 3 + ")", x.corner(i < 3 ? 0 : 7, i % 3), 1);
            C.due("part(0)", x.part(0), due[i][0]);
            C.due("part(1)", x.part(1), due[i][1]);
        }
        x.plane(1, 0, 0, 10);
        x.plane(1, 1, 0, 10);
        // A corner at x 10, y 0: 0 is told as 0 by 1.
        for (int j = 0; j < x.all(3); j++) {
            x.corner(j, 1);
            C.holds("0 is by 1", x.part(0) != 0 || x.part(1) == 1);
            C.holds("below above 0", x.part(1) > 0);
        }
    }

    private static void p13ZeroByOne() {
        C.promise(13, "in lowest terms");
        CrystalCuts x = new CrystalCuts();
        x.family(63, 1, 1, 1, 20);
        x.reach(1, 2, 3);
        C.due("corner(0, 0)", x.corner(0, 0), 1);
        C.due("part(0)", x.part(0), -20);
        C.due("corner(0, 1)", x.corner(0, 1), 1);
        C.due("part(0) of nought", x.part(0), 0);
        C.due("part(1) of nought", x.part(1), 1);
    }

    private static void p13Taken() {
        C.promise(13, "THE FRACTION: above (0), below (1)");
        S.changesNothing(Start.USED, 59, "part(0)", x -> x.part(0));
        S.changesNothing(Start.USED, 2, "part(1)", x -> x.part(1));
    }

    private static void p13Bad() {
        C.promise(13, "BAD: -1000000.");
        for (Start start : Start.values()) {
            for (int v : Ints.outside(0, 1)) {
                bad(start, -1000000, "part(" + v + ")", x -> x.part(v));
            }
        }
    }

    // ---- 14: edge

    private static void p14Each() {
        C.promise(14, "Whether two PLANES have an EDGE (what 0: 1, 0)");
        int[][] pairs = {{0, 2}, {0, 6}, {6, 0}, {1, 8}, {8, 1}, {0, 1}, {0, 7}, {0, 9}, {6, 9}, {0, 8}};
        int[][] due = {{1, 0, 0, 1, 2}, {1, 0, 1, -1, 2}, {1, 0, 1, -1, 2}, {1, 0, 1, -1, 2}, {1, 0, 1, -1, 2}, {0, 0, 0, 0, 0},
            {0, 0, 0, 0, 2}, {0, 0, 0, 0, 2}, {0, 0, 0, 0, 3}, {0, 0, 0, 0, 0}};
        for (int i = 0; i < pairs.length; i++) {
            int p = pairs[i][0];
            int q = pairs[i][1];
            for (int what = 0; what <= 4; what++) {
                int w = what;
                S.changesNothing(Start.USED, due[i][what], "edge(" + p + ", " + q + ", " + what + ")", x -> x.edge(p, q, w));
            }
        }
        S.changesNothing(Start.FULL, 0, "edge(31, 30, 0)", x -> x.edge(31, 30, 0));
        S.changesNothing(Start.FULL, 1, "edge(31, 0, 0)", x -> x.edge(31, 0, 0));
        S.changesNothing(Start.FULL, 1, "edge(0, 31, 0)", x -> x.edge(0, 31, 0));
    }

    private static void p14LowestTerms() {
        C.promise(14, "the cross product of both SIGNS in lowest terms, the first that is not 0 above 0; 0 without an EDGE");
        CrystalCuts x = boxOf(60);
        x.plane(3, 3, 0, 30);
        x.plane(3, -3, 0, 30);
        x.plane(0, 3, 3, 30);
        // (3, 3, 0) by (3, -3, 0) is (0, 0, -18), by (0, 3, 3) it is (9, -9, 9).
        int[][] due = {{1, 0, 0, 1}, {1, 1, -1, 1}};
        for (int what = 0; what <= 3; what++) {
            C.due("edge(6, 7, " + what + ")", x.edge(6, 7, what), due[0][what]);
            C.due("edge(7, 6, " + what + ")", x.edge(7, 6, what), due[0][what]);
            C.due("edge(6, 8, " + what + ")", x.edge(6, 8, what), due[1][what]);
            C.due("edge(8, 6, " + what + ")", x.edge(8, 6, what), due[1][what]);
        }
        // Octahedron: planes that meet in one corner alone have no EDGE.
        CrystalCuts y = new CrystalCuts();
        y.family(63, 1, 1, 1, 20);
        int[] apart = {0, 0, 0, 0, 1};
        for (int what = 0; what <= 4; what++) {
            C.due("(-1, -1, -1), (-1, 1, 1): edge(6, 9, " + what + ")", y.edge(6, 9, what), apart[what]);
        }
        C.due("(-1, -1, -1), (1, 1, 1): edge(6, 13, 4)", y.edge(6, 13, 4), 0);
    }

    private static void p14Bad() {
        C.promise(14, "BAD: alike, too: -100.");
        for (Start start : Start.values()) {
            for (int v : Ints.outside(0, start.planes - 1)) {
                bad(start, -100, "edge(" + v + ", 0, 0)", x -> x.edge(v, 0, 0));
                bad(start, -100, "edge(0, " + v + ", 4)", x -> x.edge(0, v, 4));
                bad(start, -100, "edge(" + v + ", " + v + ", 0)", x -> x.edge(v, v, 0));
            }
            for (int v : Ints.outside(0, 4)) {
                bad(start, -100, "edge(0, 2, " + v + ")", x -> x.edge(0, 2, v));
            }
            for (int p = 0; p < start.planes; p++) {
                int v = p;
                bad(start, -100, "edge(" + v + ", " + v + ", 4)", x -> x.edge(v, v, 4));
            }
        }
    }

    // ---- 15: reach

    private static void p15Greatest() {
        C.promise(15, "The greatest of h x and k y and l z together over THE CRYSTAL is THE FRACTION");
        S.setsFraction(Start.NEW, 4, new long[] {20, 1}, "reach(0, 0, -1)", x -> x.reach(0, 0, -1));
        S.setsFraction(Start.NEW, 1, new long[] {180, 1}, "reach(3, 3, 3)", x -> x.reach(3, 3, 3));
        S.setsFraction(Start.NEW, 1, new long[] {180, 1}, "reach(-3, -3, -3)", x -> x.reach(-3, -3, -3));
        S.setsFraction(Start.NEW, 2, new long[] {120, 1}, "reach(-3, 3, 0)", x -> x.reach(-3, 3, 0));
        S.setsFraction(Start.USED, 3, new long[] {50, 1}, "reach(1, 1, 1)", x -> x.reach(1, 1, 1));
        S.setsFraction(Start.USED, 3, new long[] {59, 2}, "reach(-1, -1, -1)", x -> x.reach(-1, -1, -1));
        S.setsFraction(Start.USED, 3, new long[] {177, 2}, "reach(-3, -3, -3)", x -> x.reach(-3, -3, -3));
        S.setsFraction(Start.USED, 1, new long[] {179, 2}, "reach(-3, -2, -1)", x -> x.reach(-3, -2, -1));
        S.setsFraction(Start.FULL, 3, new long[] {43, 1}, "reach(3, 2, 1)", x -> x.reach(3, 2, 1));
    }

    private static void p15EachCornerAlone() {
        C.promise(15, "how many CORNERS have it");
        for (int j = 0; j < 8; j++) {
            int h = (j & 4) == 0 ? -1 : 1;
            int k = (j & 2) == 0 ? -1 : 1;
            int l = (j & 1) == 0 ? -1 : 1;
            S.setsFraction(Start.NEW, 1, new long[] {60, 1}, "reach of corner " + j, x -> x.reach(h, k, l));
            // Nearer by a third of one there, so that the farthest is a fraction.
            CrystalCuts x = new CrystalCuts();
            x.plane(3 * h, 3 * k, 3 * l, 59);
            C.due("reach cut at " + j, x.reach(h, k, l), 6);
            C.due("part(0) cut at " + j, x.part(0), 59);
            C.due("part(1) cut at " + j, x.part(1), 3);
        }
    }

    private static void p15FarthestAndNearest() {
        C.promise(15, "(how far OFF a PLANE of that SIGN would just touch)");
        CrystalCuts far = boxOf(60);
        C.due("reach(3, -3, 3)", far.reach(3, -3, 3), 1);
        C.due("part(0)", far.part(0), 540);
        CrystalCuts near = boxOf(1);
        near.plane(3, 3, 3, 1);
        C.due("reach(1, 1, 1)", near.reach(1, 1, 1), near.of(6, 5));
        C.due("part(0)", near.part(0), 1);
        C.due("part(1)", near.part(1), 3);
    }

    private static void p15Bad() {
        C.promise(15, "BAD.");
        for (Start start : Start.values()) {
            for (int v : OUTSIDE_SIGN) {
                bad(start, -2, "reach(" + v + ", 1, 1)", x -> x.reach(v, 1, 1));
                bad(start, -2, "reach(1, " + v + ", 1)", x -> x.reach(1, v, 1));
                bad(start, -2, "reach(1, 1, " + v + ")", x -> x.reach(1, 1, v));
            }
            bad(start, -2, "reach(0, 0, 0)", x -> x.reach(0, 0, 0));
        }
    }

    // ---- 16, 17: stays, symmetry

    private static void p16EachTurn() {
        C.promise(16, "Whether THE CRYSTAL stays as it is by a TURN (0 .. 5) of all its points");
        // Start.USED: the cuts at (20, 20, 20) and (-20, -20, -20) are not alike, so no turn through the middle.
        int[][] due = {{1, 1, 1, 1, 1, 1}, {0, 0, 0, 0, 1, 1}, {0, 0, 0, 0, 1, 1}};
        for (Start start : Start.values()) {
            for (int turn = 0; turn <= 5; turn++) {
                int t = turn;
                S.changesNothing(start, due[start.ordinal()][t], "stays(" + t + ")", x -> x.stays(t));
            }
        }
    }

    private static void p16EachAlone() {
        C.promise(16, "(each x, y, z as h, k, l by it)");
        for (int set = 0; set <= 63; set++) {
            CrystalCuts x = boxOf(20);
            Oracle o = new Oracle();
            if (x.family(set, 1, 2, 3, 45) > 0) {
                o.family(set, 1, 2, 3, 45);
            }
            for (int turn = 0; turn <= 5; turn++) {
                C.due("family(" + set + ", ..), stays(" + turn + ")", x.stays(turn), o.stays(turn));
            }
        }
    }

    /** All corners but one come to corners: the first, or the last. */
    private static void p16OneCornerAlone() {
        C.promise(16, "stays as it is");
        for (int side : new int[] {-1, 1}) {
            CrystalCuts x = roofed(side, 20);
            C.due("all(3), side " + side, x.all(3), 9);
            // Turns 0, 1 and 2 take each corner to a corner but the peak, which would come to the other side.
            for (int turn = 0; turn <= 5; turn++) {
                C.due("side " + side + ", stays(" + turn + ")", x.stays(turn), 0);
            }
            C.due("side " + side + ", symmetry()", x.symmetry(), 0);
        }
    }

    private static void p16Bad() {
        C.promise(16, "BAD.");
        for (Start start : Start.values()) {
            for (int v : Ints.outside(0, 5)) {
                bad(start, -2, "stays(" + v + ")", x -> x.stays(v));
            }
        }
    }

    private static void p17AsBits() {
        C.promise(17, "All TURNS by which it stays, as bits.");
        S.changesNothing(Start.NEW, 63, "symmetry()", x -> x.symmetry());
        S.changesNothing(Start.USED, 48, "symmetry()", x -> x.symmetry());
        S.changesNothing(Start.FULL, 48, "symmetry()", x -> x.symmetry());
        CrystalCuts x = new CrystalCuts();
        x.plane(1, 2, 3, 50);
        C.due("by none", x.symmetry(), 0);
        for (int turn = 0; turn <= 5; turn++) {
            CrystalCuts y = new CrystalCuts();
            y.family(1 << turn, 1, 2, 3, 50);
            C.due("by " + turn, y.symmetry(), turn == 3 ? 8 | 4 : 1 << turn);
        }
    }

    // ---- 18: hides

    private static void hides(CrystalCuts x, int h, int k, int l, int least, int many) {
        String sign = "(" + h + ", " + k + ", " + l + ", ";
        C.due("hides" + sign + "0)", x.hides(h, k, l, 0), least);
        C.due("hides" + sign + "1)", x.hides(h, k, l, 1), many);
    }

    private static void p18Least() {
        C.promise(18, "The least OFF (1 .. 60) by which a PLANE of a SIGN, were it there, too, would be HIDDEN and no CORNER ON it (what 0; NONE: by none)");
        // Farthest 20: at 20 it would be the same plane as one that SHOWS; CORNERS are ON it.
        hides(new CrystalCuts(), 1, 0, 0, 21, 19);
        hides(boxOf(58), -1, 0, 0, 59, 57);
        hides(boxOf(59), 0, 1, 0, 60, 58);
        hides(boxOf(60), 0, -1, 0, -1, 59);
        hides(boxOf(20), 1, 1, 1, -1, 59);
        hides(boxOf(20), 2, 1, 0, -1, 59);
        hides(boxOf(31), 0, 1, 1, -1, 60);
        hides(boxOf(60), 3, 3, 3, -1, 60);
        hides(boxOf(1), 0, 0, 1, 2, 0);
        hides(boxOf(1), 1, 1, 0, 3, 1);
    }

    private static void p18FractionsBetween() {
        C.promise(18, "at how many of OFFS 1 .. 60 it would SHOW (1)");
        CrystalCuts x = boxOf(1);
        x.plane(3, 0, 0, 1);
        x.plane(0, 3, 0, 2);
        x.plane(0, 0, 2, 3);
        // Farthest 1/3, 2/3, 1 (of the BOX), and sums of them.
        hides(x, 1, 0, 0, 1, 0);
        hides(x, 0, 1, 0, 1, 0);
        hides(x, 0, 0, 1, 2, 0);
        hides(x, 1, 1, 0, 2, 0);
        hides(x, 2, 2, 1, 4, 2);
        hides(x, 2, 1, 0, 2, 1);
        CrystalCuts y = new CrystalCuts();
        y.plane(2, 2, 2, 59);
        y.plane(-1, -1, -1, 59);
        // Farthest 59/2 one way, 59 the other way; twice that is 118.
        hides(y, 1, 1, 1, 30, 29);
        hides(y, 2, 2, 2, 60, 58);
        hides(y, -1, -1, -1, 60, 58);
        hides(y, -2, -2, -2, -1, 60);
        CrystalCuts z = new CrystalCuts();
        z.plane(3, 0, 0, 59);
        z.plane(0, 2, 0, 39);
        // x to 59/3, y to 39/2: 2 x and y 353/6, 3 x 59, 3 y 117/2, x and 2 y 176/3.
        hides(z, 2, 1, 0, 59, 58);
        hides(z, 0, 3, 0, 59, 58);
        hides(z, 1, 2, 0, 59, 58);
        hides(z, 3, 0, 0, 60, 58);
        hides(z, 2, 2, 0, -1, 60);
    }

    private static void p18Touching() {
        C.promise(18, "would be HIDDEN and no CORNER ON it");
        for (int[] s : new int[][] {{1, 0, 0}, {1, 1, 0}, {1, 1, 1}, {2, 1, 0}, {-1, 2, -2}, {-3, 0, 1}}) {
            CrystalCuts x = boxOf(7);
            int least = x.hides(s[0], s[1], s[2], 0);
            int many = x.hides(s[0], s[1], s[2], 1);
            int reach = 7 * (Math.abs(s[0]) + Math.abs(s[1]) + Math.abs(s[2]));
            C.due("least", least, reach + 1);
            C.due("many", many, reach - 1);
            int p = x.plane(s[0], s[1], s[2], reach);
            C.due("at " + reach + " HIDDEN", x.of(p, 4), 0);
            C.holds("at " + reach + " with CORNERS ON it", x.of(p, 5) > 0);
            x.off(p, reach + 1);
            C.due("at " + (reach + 1) + " none ON it", x.of(p, 5), 0);
            x.off(p, reach - 1);
            C.due("at " + (reach - 1) + " it SHOWS", x.of(p, 4), 1);
        }
    }

    private static void p18AllStays() {
        C.promise(18, "All stays.");
        for (Start start : new Start[] {Start.NEW, Start.USED}) {
            S.changesNothing(start, 21, "hides(1, 0, 0, 0)", x -> x.hides(1, 0, 0, 0));
            S.changesNothing(start, 19, "hides(1, 0, 0, 1)", x -> x.hides(1, 0, 0, 1));
            S.changesNothing(start, -1, "hides(-3, 3, -3, 0)", x -> x.hides(-3, 3, -3, 0));
            S.changesNothing(start, 60, "hides(-3, 3, -3, 1)", x -> x.hides(-3, 3, -3, 1));
        }
    }

    private static void p18Bad() {
        C.promise(18, "BAD");
        for (Start start : Start.values()) {
            for (int v : OUTSIDE_SIGN) {
                bad(start, -2, "hides(" + v + ", 1, 1, 0)", x -> x.hides(v, 1, 1, 0));
                bad(start, -2, "hides(1, " + v + ", 1, 1)", x -> x.hides(1, v, 1, 1));
                bad(start, -2, "hides(1, 1, " + v + ", 0)", x -> x.hides(1, 1, v, 0));
            }
            for (int v : Ints.outside(0, 1)) {
                bad(start, -2, "hides(1, 1, 1, " + v + ")", x -> x.hides(1, 1, 1, v));
            }
            bad(start, -2, "hides(0, 0, 0, 0)", x -> x.hides(0, 0, 0, 0));
        }
    }

    private static void p18Full() {
        C.promise(18, "FULL: 32 PLANES.");
        S.refused(Start.FULL, SideBySide.FULLS, -4, "hides(1, 0, 0, 0)", x -> x.hides(1, 0, 0, 0));
        S.refused(Start.FULL, SideBySide.FULLS, -4, "hides(-3, -3, -3, 1)", x -> x.hides(-3, -3, -3, 1));
        CrystalCuts x = Start.FULL.make();
        int fulls = x.told(2);
        x.drop(31);
        hides(x, 1, 0, 0, 11, 9);
        C.due("told(2) with 31 PLANES", x.told(2), fulls);
    }

    // ---- 19: spare

    private static void p19BoxAlone() {
        C.promise(19, "NO: the BOX alone.");
        no(Start.NEW, "spare(0)", x -> x.spare(0));
        no(Start.NEW, "spare(1)", x -> x.spare(1));
        CrystalCuts x = new CrystalCuts();
        x.off(0, 5);
        C.due("with another OFF", x.spare(0), -3);
        x.plane(1, 1, 1, 30);
        C.due("one plane", x.spare(0), 6);
        C.due("one plane", x.spare(1), 8);
        x.back();
        C.due("behind back()", x.spare(0), -3);
        x.plane(1, 1, 1, 30);
        x.drop(6);
        C.due("behind drop(6)", x.spare(1), -3);
        x.draw(5, 3);
        x.anew();
        C.due("behind anew()", x.spare(0), -3);
        C.due("told(1)", x.told(1), 4);
    }

    private static void p19OfLikeOnesTheLeast() {
        C.promise(19, "The PLANE without which most CORNERS are left (what 0; not of the BOX; of like ones the least), how many (1).");
        // 6, 7 and 9 may go without a loss: a twin, a HIDDEN one, a twin.
        S.changesNothing(Start.USED, 6, "spare(0)", x -> x.spare(0));
        S.changesNothing(Start.USED, 12, "spare(1)", x -> x.spare(1));
        CrystalCuts x = new CrystalCuts();
        x.plane(1, 1, 1, 50);
        x.plane(-1, -1, -1, 50);
        C.due("like ones", x.spare(0), 6);
        C.due("like ones", x.spare(1), 10);
        x.plane(3, 0, 0, 60);
        C.due("a plane of the BOX told again is not of the BOX", x.spare(0), 8);
        C.due("12 are left", x.spare(1), 12);
    }

    private static void p19NotOfTheBox() {
        C.promise(19, "not of the BOX");
        CrystalCuts x = new CrystalCuts();
        Oracle o = new Oracle();
        // Within the octahedron the BOX is HIDDEN: without one of it all corners would be left.
        x.family(63, 1, 1, 1, 15);
        o.family(63, 1, 1, 1, 15);
        C.due("spare(0)", x.spare(0), o.spare(0));
        C.due("spare(1)", x.spare(1), o.spare(1));
        C.holds("none of the BOX", x.spare(0) >= 6);
    }

    private static void p19MoreCornersThanNow() {
        C.promise(19, "most CORNERS are left");
        CrystalCuts x = new CrystalCuts();
        x.family(63, 1, 1, 1, 50);
        x.plane(1, 0, 0, 1);
        C.due("all(3)", x.all(3), 16);
        C.due("without the last the far corners are back", x.spare(0), 14);
        C.due("spare(1)", x.spare(1), 24);
        x.off(14, 20);
        C.due("known anew behind off()", x.spare(0), 14);
        C.due("known anew behind off()", x.spare(1), 24);
        x.off(14, 19);
        x.off(6, 60);
        C.due("behind off()", x.spare(1), 22);
    }

    private static void p19Full() {
        C.promise(19, "All stays.");
        Oracle o = new Oracle();
        for (int p = 0; p < 6; p++) {
            o.off(p, 10);
        }
        o.family(63, 1, 1, 0, 16);
        o.family(63, 1, 1, 1, 18);
        o.family(48, 3, 2, 1, 43);
        S.changesNothing(Start.FULL, o.spare(0), "spare(0)", x -> x.spare(0));
        S.changesNothing(Start.FULL, o.spare(1), "spare(1)", x -> x.spare(1));
    }

    private static void p19Bad() {
        C.promise(19, "BAD");
        for (Start start : Start.values()) {
            for (int v : Ints.outside(0, 1)) {
                bad(start, -2, "spare(" + v + ")", x -> x.spare(v));
            }
        }
    }
}
