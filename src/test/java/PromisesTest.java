import java.util.function.IntUnaryOperator;

/** Each promise by ordinary inputs, by the edges that the document names, and by wrong inputs. */
public final class PromisesTest {
    private static final Checks C = new Checks("PromisesTest");
    private static final int LEAST = Integer.MIN_VALUE;
    private static final int MOST = Integer.MAX_VALUE;

    public static void main(String[] args) {
        p01NewObject();
        p02Plane();
        p03Family();
        p04Off();
        p05Drop();
        p06Anew();
        p07Draw();
        p08Of();
        p09Member();
        p10All();
        p11Corner();
        p12Meets();
        p13Part();
        p14Edge();
        p15Reach();
        p16Stays();
        p17Symmetry();
        p18Hides();
        p19Spare();
        p20Type();
        p21Clear();
        p22Reads();
        p23Back();
        p24Told();
        p25Digest();
        C.end();
    }

    // ---- helpers

    private static CrystalCuts full() {
        CrystalCuts x = new CrystalCuts();
        x.draw(1, 26);
        return x;
    }

    private static void write(CrystalCuts x, String text) {
        x.clear();
        for (int i = 0; i < text.length(); i++) {
            x.type(text.charAt(i));
        }
    }

    /** Reads a text on a new object. */
    private static void read(String text, int want) {
        CrystalCuts x = new CrystalCuts();
        write(x, text);
        C.due("reads of '" + text + "'", x.reads(), want);
        C.due("told(4) behind '" + text + "'", x.told(4), 6 + Math.max(want, 0));
        C.due("told(5) behind '" + text + "'", x.told(5), want > 0 ? 1 : 0);
        C.due("told(0) behind '" + text + "'", x.told(0) + x.told(1) + x.told(2), 0);
        C.due("told(3) behind '" + text + "'", x.told(3), text.length());
    }

    /** The place of a fault in a text. */
    private static void fault(String text, int place) {
        read(text, -10 - place);
    }

    private static void plane(CrystalCuts x, int p, int h, int k, int l, int off) {
        C.due("h of " + p, x.of(p, 0), h);
        C.due("k of " + p, x.of(p, 1), k);
        C.due("l of " + p, x.of(p, 2), l);
        C.due("OFF of " + p, x.of(p, 3), off);
    }

    private static void fraction(CrystalCuts x, long above, long below) {
        C.due("part(0)", x.part(0), above);
        C.due("part(1)", x.part(1), below);
    }

    private static void box(CrystalCuts x, int off) {
        plane(x, 0, 1, 0, 0, off);
        plane(x, 1, -1, 0, 0, off);
        plane(x, 2, 0, 1, 0, off);
        plane(x, 3, 0, -1, 0, off);
        plane(x, 4, 0, 0, 1, off);
        plane(x, 5, 0, 0, -1, off);
    }

    /** Each of the numbers is refused, with the answer, once counted, and nothing else is changed. */
    private static void refuses(CrystalCuts x, int answer, int kind, IntUnaryOperator call, int... numbers) {
        for (int v : numbers) {
            int planes = x.told(4);
            int states = x.told(5);
            int text = x.told(3);
            int[] counts = {x.told(0), x.told(1), x.told(2)};
            long above = x.part(0);
            long below = x.part(1);
            C.due("refused " + v, call.applyAsInt(v), answer);
            counts[kind]++;
            for (int i = 0; i < 3; i++) {
                C.due("told(" + i + ") behind refused " + v, x.told(i), counts[i]);
            }
            C.due("bytes behind refused " + v, x.told(3), text);
            C.due("PLANES behind refused " + v, x.told(4), planes);
            C.due("STATES behind refused " + v, x.told(5), states);
            C.due("above behind refused " + v, x.part(0), above);
            C.due("below behind refused " + v, x.part(1), below);
        }
    }

    // ---- promises

    private static void p01NewObject() {
        CrystalCuts x = new CrystalCuts();
        C.due("all(0)", x.all(0), 6);
        box(x, 20);
        fraction(x, 0, 1);
        for (int what = 0; what <= 5; what++) {
            C.due("told(" + what + ")", x.told(what), what == 4 ? 6 : 0);
        }
        C.due("NONE", CrystalCuts.NONE, -1);
        C.due("BAD", CrystalCuts.BAD, -2);
        C.due("NO", CrystalCuts.NO, -3);
        C.due("FULL", CrystalCuts.FULL, -4);
    }

    private static void p02Plane() {
        CrystalCuts x = new CrystalCuts();
        C.due("plane(3, -3, 2, 60)", x.plane(3, -3, 2, 60), 6);
        C.due("plane(-3, 3, 0, 1)", x.plane(-3, 3, 0, 1), 7);
        plane(x, 6, 3, -3, 2, 60);
        plane(x, 7, -3, 3, 0, 1);
        C.due("told(5)", x.told(5), 2);
        refuses(x, -2, 0, v -> x.plane(v, 0, 0, 5), LEAST, -4, 0, 4, MOST);
        refuses(x, -2, 0, v -> x.plane(0, v, 0, 5), LEAST, -4, 0, 4, MOST);
        refuses(x, -2, 0, v -> x.plane(0, 0, v, 5), LEAST, -4, 0, 4, MOST);
        refuses(x, -2, 0, v -> x.plane(1, 0, 0, v), LEAST, -1, 0, 61, MOST);
        for (int p = 8; p < 32; p++) {
            C.due("plane " + p, x.plane(1, 1, 1, 5 + p), p);
        }
        refuses(x, -4, 2, v -> x.plane(v, 0, 0, 5), 1, -3);
        refuses(x, -2, 0, v -> x.plane(v, 0, 0, 5), 4);
        C.due("bits of a corner on plane 31", x.off(31, 1) + x.meets(0, 0), 36 + 3);
    }

    private static void p03Family() {
        CrystalCuts x = new CrystalCuts();
        C.due("family(0, ..)", x.family(0, 1, 2, 3, 50), 1);
        plane(x, 6, 1, 2, 3, 50);
        C.due("family(1, ..)", x.family(1, 1, 2, 3, 40), 2);
        plane(x, 7, -1, -2, -3, 40);
        plane(x, 8, 1, 2, 3, 40);
        C.due("family(16, ..)", x.family(16, 1, 2, 3, 30), 3);
        plane(x, 9, 1, 2, 3, 30);
        plane(x, 10, 2, 3, 1, 30);
        plane(x, 11, 3, 1, 2, 30);
        C.due("family(63, 1, 1, 1)", x.family(63, 1, 1, 1, 29), 8);
        plane(x, 12, -1, -1, -1, 29);
        plane(x, 13, -1, -1, 1, 29);
        plane(x, 19, 1, 1, 1, 29);
        C.due("told(5)", x.told(5), 4);
        refuses(x, -2, 0, v -> x.family(v, 1, 0, 0, 5), LEAST, -1, 64, MOST);
        refuses(x, -2, 0, v -> x.family(0, v, 0, 0, 5), LEAST, -4, 0, 4, MOST);
        refuses(x, -2, 0, v -> x.family(0, 0, v, 0, 5), LEAST, -4, 0, 4, MOST);
        refuses(x, -2, 0, v -> x.family(0, 0, 0, v, 5), LEAST, -4, 0, 4, MOST);
        refuses(x, -2, 0, v -> x.family(0, 1, 0, 0, v), LEAST, 0, 61, MOST);
        refuses(x, -4, 2, v -> x.family(63, 1, v, 3, 5), 2);
        C.due("family to the last place", x.family(63, 1, 1, 0, 60), 12);
        C.due("all(0)", x.all(0), 32);
        refuses(x, -4, 2, v -> x.family(0, v, 0, 0, 5), 1);
        refuses(x, -2, 0, v -> x.family(v, 1, 0, 0, 5), 64);
    }

    private static void p04Off() {
        CrystalCuts x = new CrystalCuts();
        C.due("off(0, 60)", x.off(0, 60), 20);
        C.due("off(0, 1)", x.off(0, 1), 60);
        C.due("of(0, 3)", x.of(0, 3), 1);
        C.due("told(5)", x.told(5), 2);
        C.due("off(0, 1) again", x.off(0, 1), 1);
        C.due("told(5)", x.told(5), 3);
        x.plane(1, 1, 1, 9);
        C.due("off(6, 8)", x.off(6, 8), 9);
        refuses(x, -2, 0, v -> x.off(v, 5), LEAST, -1, 7, 32, MOST);
        refuses(x, -2, 0, v -> x.off(0, v), LEAST, -1, 0, 61, MOST);
        C.due("of(0, 3)", x.of(0, 3), 1);
    }

    private static void p05Drop() {
        CrystalCuts x = new CrystalCuts();
        x.plane(1, 0, 1, 11);
        x.plane(0, 1, 1, 12);
        x.plane(1, 1, 1, 13);
        C.due("drop(7)", x.drop(7), 8);
        plane(x, 6, 1, 0, 1, 11);
        plane(x, 7, 1, 1, 1, 13);
        C.due("drop(7)", x.drop(7), 7);
        C.due("told(5)", x.told(5), 5);
        refuses(x, -2, 0, v -> x.drop(v), LEAST, -1, 0, 1, 2, 3, 4, 5, 7, 31, 32, MOST);
        C.due("drop(6)", x.drop(6), 6);
        refuses(x, -2, 0, v -> x.drop(v), 6);
        CrystalCuts full = full();
        C.due("drop(31)", full.drop(31), 31);
        C.due("drop(6)", full.drop(6), 30);
    }

    private static void p06Anew() {
        CrystalCuts x = new CrystalCuts();
        x.off(0, 5);
        x.off(5, 7);
        x.plane(1, 1, 1, 9);
        x.corner(0, 0);
        C.due("anew()", x.anew(), 7);
        C.due("all(0)", x.all(0), 6);
        box(x, 20);
        fraction(x, -20, 1);
        C.due("told(5)", x.told(5), 4);
        C.due("anew() again", x.anew(), 6);
        C.due("told(5)", x.told(5), 5);
        C.due("anew() of 32", full().anew(), 32);
    }

    private static void p07Draw() {
        CrystalCuts x = new CrystalCuts();
        x.off(0, 7);
        x.plane(1, 1, 1, 1);
        // X is 12345: by 65536 0, by 1024 12, by 32768 0, by 512 24.
        // It takes four corners of the box away, and crosses six edges.
        C.due("draw(0, 1)", x.draw(0, 1), 10);
        plane(x, 6, -3, 2, -3, 34);
        C.due("box kept", x.of(0, 3), 7);
        C.due("all(0)", x.all(0), 7);
        C.due("told(5)", x.told(5), 3);
        long seed = 999999;
        C.due("draw(999999, 26)", x.draw(999999, 26), x.all(3));
        for (int p = 6; p < 32; p++) {
            seed = (seed * 1103515245L + 12345L) % 2147483648L;
            int h = (int) (seed / 65536 % 7) - 3;
            int k = (int) (seed / 1024 % 7) - 3;
            int l = (int) (seed / 32768 % 7) - 3;
            plane(x, p, h == 0 && k == 0 && l == 0 ? 1 : h, k, l, 10 + (int) (seed / 512 % 31));
        }
        refuses(x, -2, 0, v -> x.draw(v, 1), LEAST, -1, 1000000, MOST);
        refuses(x, -2, 0, v -> x.draw(1, v), LEAST, -1, 0, 27, MOST);
        C.due("all(0)", x.all(0), 32);
    }

    private static void p08Of() {
        CrystalCuts x = new CrystalCuts();
        x.plane(1, 1, 1, 50);
        x.plane(2, 2, 2, 60);
        x.plane(1, 1, 1, 30);
        // 7 is the same plane as 8, and first; 6 is beyond.
        int[][] due = {{50, 0, 0, 0}, {60, 1, 3, 3}, {30, 0, 3, 0}};
        for (int i = 0; i < 3; i++) {
            for (int what = 3; what <= 6; what++) {
                C.due("of(" + (6 + i) + ", " + what + ")", x.of(6 + i, what), due[i][what - 3]);
            }
        }
        x.plane(1, 1, 1, 29);
        C.due("it SHOWS no more", x.of(7, 4), 0);
        C.due("nor has it EDGES", x.of(7, 6), 0);
        C.due("but the new one SHOWS", x.of(9, 4), 1);
        // A plane through one edge of the box, one through one corner: HIDDEN, with CORNERS ON it.
        CrystalCuts y = new CrystalCuts();
        y.plane(1, 1, 0, 40);
        y.plane(1, 1, 1, 60);
        C.due("edge-on SHOWS", y.of(6, 4), 0);
        C.due("edge-on CORNERS", y.of(6, 5), 2);
        C.due("edge-on EDGES", y.of(6, 6), 0);
        C.due("corner-on SHOWS", y.of(7, 4), 0);
        C.due("corner-on CORNERS", y.of(7, 5), 1);
        C.due("corner-on EDGES", y.of(7, 6), 0);
        refuses(y, -100, 0, v -> y.of(v, 0), LEAST, -1, 8, 32, MOST);
        refuses(y, -100, 0, v -> y.of(0, v), LEAST, -1, 7, MOST);
    }

    private static void p09Member() {
        CrystalCuts x = new CrystalCuts();
        C.due("48 of them", x.member(63, 1, 2, 3, -1), 48);
        C.due("the first", x.member(63, 1, 2, 3, 0), 12);
        C.due("the last", x.member(63, 1, 2, 3, 47), 654);
        C.due("one more", x.member(63, 1, 2, 3, 48), -5);
        C.due("far more", x.member(63, 1, 2, 3, MOST), -5);
        C.due("alone", x.member(0, -3, 0, 3, -1), 1);
        C.due("alone, itself", x.member(0, -3, 0, 3, 0), 36);
        C.due("alone, no other", x.member(0, -3, 0, 3, 1), -5);
        int[][] twos = {{1, -1, -2, -3}, {2, -1, 2, 3}, {4, -1, -2, 3}, {32, 2, 1, 3}};
        for (int[] t : twos) {
            int first = 456;
            int other = 100 * (t[1] + 3) + 10 * (t[2] + 3) + t[3] + 3;
            C.due("two by " + t[0], x.member(t[0], 1, 2, 3, -1), 2);
            C.due("least by " + t[0], x.member(t[0], 1, 2, 3, 0), Math.min(first, other));
            C.due("greatest by " + t[0], x.member(t[0], 1, 2, 3, 1), Math.max(first, other));
        }
        // Quarter turns of (1, 2, 3): (-2, 1, 3), (-1, -2, 3), (2, -1, 3).
        int[] four = {146, 216, 456, 526};
        C.due("four by 8", x.member(8, 1, 2, 3, -1), 4);
        for (int m = 0; m < 4; m++) {
            C.due("by 8, " + m, x.member(8, 1, 2, 3, m), four[m]);
        }
        C.due("three by 16", x.member(16, 1, 2, 3, -1), 3);
        C.due("six by 48", x.member(48, 1, 2, 3, -1), 6);
        C.due("eight by 10", x.member(10, 1, 2, 3, -1), 8);
        refuses(x, -10, 0, v -> x.member(v, 1, 2, 3, -1), LEAST, -1, 64, MOST);
        refuses(x, -10, 0, v -> x.member(1, v, 0, 0, -1), LEAST, -4, 0, 4, MOST);
        refuses(x, -10, 0, v -> x.member(1, 0, v, 0, -1), LEAST, -4, 0, 4, MOST);
        refuses(x, -10, 0, v -> x.member(1, 0, 0, v, -1), LEAST, -4, 0, 4, MOST);
        refuses(x, -10, 0, v -> x.member(1, 1, 0, 0, v), LEAST, -3, -2);
        C.due("-5 is no refusal", x.told(1), 0);
        C.due("all(0)", x.all(0), 6);
    }

    private static void p10All() {
        CrystalCuts x = new CrystalCuts();
        x.family(63, 1, 1, 1, 20);
        // An octahedron within the box: six corners, on each a plane of the box that is HIDDEN.
        int[] octahedron = {14, 8, 6, 6, 12, 3, 4};
        for (int what = 0; what <= 6; what++) {
            C.due("octahedron, all(" + what + ")", x.all(what), octahedron[what]);
        }
        CrystalCuts y = new CrystalCuts();
        y.family(63, 1, 1, 0, 20);
        // A rhombic dodecahedron.
        int[] rhombic = {18, 12, 6, 14, 24, 4, 4};
        for (int what = 0; what <= 6; what++) {
            C.due("rhombic, all(" + what + ")", y.all(what), rhombic[what]);
        }
        refuses(x, -2, 0, v -> x.all(v), LEAST, -1, 7, MOST);
        mostCorners();
    }

    /** A truncated cuboctahedron with six of its 48 corners cut off: 32 planes that all SHOW, 60 corners. */
    private static void mostCorners() {
        CrystalCuts x = new CrystalCuts();
        for (int p = 0; p < 6; p++) {
            x.off(p, 10);
        }
        x.family(63, 1, 1, 0, 16);
        x.family(63, 1, 1, 1, 18);
        int[] whole = {26, 26, 0, 48, 72, 8, 3};
        for (int what = 0; what <= 6; what++) {
            C.due("48 corners, all(" + what + ")", x.all(what), whole[what]);
        }
        C.due("family(48, 3, 2, 1, 43)", x.family(48, 3, 2, 1, 43), 6);
        int[] most = {32, 32, 0, 60, 90, 12, 3};
        for (int what = 0; what <= 6; what++) {
            C.due("60 corners, all(" + what + ")", x.all(what), most[what]);
        }
        C.due("the last corner", x.corner(59, 0), 1);
        C.due("no corner more", x.corner(60, 0), -3);
        C.due("the last plane, in bits", x.edge(31, 0, 4), 2);
        C.due("turned", x.symmetry(), 48);
    }

    private static void p11Corner() {
        CrystalCuts x = new CrystalCuts();
        x.plane(2, 3, 0, 60);
        // The corners at x 20, y 20 go; there come y 20/3 at x 20, and x 0 at y 20.
        long[][] due = {{-20, 1, -20, 1, -20, 1}, {-20, 1, -20, 1, 20, 1}, {-20, 1, 20, 1, -20, 1}, {-20, 1, 20, 1, 20, 1},
            {0, 1, 20, 1, -20, 1}, {0, 1, 20, 1, 20, 1}, {20, 1, -20, 1, -20, 1}, {20, 1, -20, 1, 20, 1},
            {20, 1, 20, 3, -20, 1}, {20, 1, 20, 3, 20, 1}};
        for (int j = 0; j < due.length; j++) {
            for (int a = 0; a < 3; a++) {
                C.due("corner(" + j + ", " + a + ")", x.corner(j, a), 1);
                fraction(x, due[j][2 * a], due[j][2 * a + 1]);
            }
        }
        refuses(x, -3, 1, v -> x.corner(v, 0), 10, 59, 60, 61, MOST);
        refuses(x, -2, 0, v -> x.corner(v, 0), LEAST, -1);
        refuses(x, -2, 0, v -> x.corner(0, v), LEAST, -1, 3, MOST);
        refuses(x, -2, 0, v -> x.corner(10, v), -1, 3);
    }

    private static void p12Meets() {
        CrystalCuts x = new CrystalCuts();
        C.due("meets(7, 0)", x.meets(7, 0), 3);
        C.due("meets(7, 1)", x.meets(7, 1), 1 | 4 | 16);
        x.plane(1, 1, 1, 60);
        C.due("meets(7, 0), HIDDEN too", x.meets(7, 0), 4);
        C.due("meets(7, 1), HIDDEN too", x.meets(7, 1), 1 | 4 | 16 | 64);
        C.due("meets(8, 0)", x.meets(8, 0), -1);
        C.due("meets(MOST, 1)", x.meets(MOST, 1), -1);
        C.due("NONE is no refusal", x.told(0) + x.told(1) + x.told(2), 0);
        refuses(x, -2, 0, v -> x.meets(v, 0), LEAST, -1);
        refuses(x, -2, 0, v -> x.meets(0, v), LEAST, -1, 2, MOST);
        refuses(x, -2, 0, v -> x.meets(8, v), 2);
        CrystalCuts full = new CrystalCuts();
        for (int p = 6; p < 32; p++) {
            full.plane(1, 1, 1, 60);
        }
        C.due("32 bits", full.meets(7, 1), 1 | 4 | 16 | -64);
        C.due("29 planes", full.meets(7, 0), 29);
    }

    private static void p13Part() {
        CrystalCuts x = new CrystalCuts();
        fraction(x, 0, 1);
        x.plane(2, 2, 2, 59);
        x.reach(1, 1, 1);
        fraction(x, 59, 2);
        x.reach(2, 2, 2);
        fraction(x, 59, 1);
        x.off(0, 7);
        x.anew();
        x.back();
        fraction(x, 59, 1);
        for (int v : new int[] {LEAST, -1, 2, MOST}) {
            int bads = x.told(0);
            C.due("part(" + v + ")", x.part(v), -1000000L);
            C.due("told(0)", x.told(0), bads + 1);
        }
        fraction(x, 59, 1);
    }

    private static void p14Edge() {
        CrystalCuts x = new CrystalCuts();
        int[] upright = {1, 0, 0, 1, 2};
        for (int what = 0; what <= 4; what++) {
            C.due("edge(0, 2, " + what + ")", x.edge(0, 2, what), upright[what]);
            C.due("edge(3, 0, " + what + ")", x.edge(3, 0, what), upright[what]);
            C.due("edge(1, 0, " + what + ")", x.edge(1, 0, what), 0);
        }
        x.plane(-2, 2, 2, 50);
        // (1, 0, 0) and (-2, 2, 2): (0, -2, 2), told as (0, 1, -1); only HIDDEN at x 20.
        x.off(0, 1);
        int[] slanted = {1, 0, 1, -1, 2};
        for (int what = 0; what <= 4; what++) {
            C.due("edge(0, 6, " + what + ")", x.edge(0, 6, what), slanted[what]);
            C.due("edge(6, 0, " + what + ")", x.edge(6, 0, what), slanted[what]);
        }
        CrystalCuts y = new CrystalCuts();
        y.plane(1, 1, 2, 40);
        y.plane(1, 2, 1, 40);
        // (-3, 1, 1), told as (3, -1, -1): from (-20, 20, 20) to (20, 20/3, 20/3).
        int[] downward = {1, 3, -1, -1, 2};
        for (int what = 0; what <= 4; what++) {
            C.due("edge(7, 6, " + what + ")", y.edge(7, 6, what), downward[what]);
        }
        // A twin has the corners, but no EDGE.
        x.plane(0, 0, 2, 40);
        int[] twin = {0, 0, 0, 0, 2};
        for (int what = 0; what <= 4; what++) {
            C.due("edge(7, 0, " + what + ")", x.edge(7, 0, what), twin[what]);
        }
        C.due("twins, CORNERS", x.edge(4, 7, 4), x.of(4, 5));
        C.due("twins, EDGE", x.edge(4, 7, 0), 0);
        refuses(x, -100, 0, v -> x.edge(v, 1, 0), LEAST, -1, 1, 8, 32, MOST);
        refuses(x, -100, 0, v -> x.edge(1, v, 0), LEAST, -1, 1, 8, 32, MOST);
        refuses(x, -100, 0, v -> x.edge(0, 1, v), LEAST, -1, 5, MOST);
    }

    private static void p15Reach() {
        CrystalCuts x = new CrystalCuts();
        C.due("reach(1, 0, 0)", x.reach(1, 0, 0), 4);
        fraction(x, 20, 1);
        C.due("reach(0, -3, 1)", x.reach(0, -3, 1), 2);
        fraction(x, 80, 1);
        C.due("reach(3, 3, 3)", x.reach(3, 3, 3), 1);
        fraction(x, 180, 1);
        x.plane(3, 3, 3, 1);
        C.due("reach(1, 1, 1)", x.reach(1, 1, 1), 6);
        fraction(x, 1, 3);
        C.due("reach(2, 2, 2)", x.reach(2, 2, 2), 6);
        fraction(x, 2, 3);
        refuses(x, -2, 0, v -> x.reach(v, 0, 0), LEAST, -4, 0, 4, MOST);
        refuses(x, -2, 0, v -> x.reach(0, v, 0), LEAST, -4, 0, 4, MOST);
        refuses(x, -2, 0, v -> x.reach(0, 0, v), LEAST, -4, 0, 4, MOST);
        // Upright: (20, -20), (20, -10), (90/7, 80/7), (0, 20), (-20, 20), (-20, -20).
        CrystalCuts y = new CrystalCuts();
        y.plane(3, 1, 0, 50);
        y.plane(2, 3, 0, 60);
        C.due("reach(2, 2, 0)", y.reach(2, 2, 0), 2);
        fraction(y, 340, 7);
        C.due("reach(1, 3, 0)", y.reach(1, 3, 0), 2);
        fraction(y, 60, 1);
        C.due("reach(3, 0, 0)", y.reach(3, 0, 0), 4);
        fraction(y, 60, 1);
        C.due("reach(3, 1, 0)", y.reach(3, 1, 0), 4);
        fraction(y, 50, 1);
        C.due("32 planes", full().reach(1, 2, 3) > 0 ? 1 : 0, 1);
    }

    private static void p16Stays() {
        // Planes that one turn alone, of those told, leaves as they are.
        int[][] due = {{1, 1, 2, 3}, {2, 1, 2, 3}, {4, 1, 2, 3}, {8, 1, 2, 3}, {16, 1, 2, 3}, {32, 1, 2, 3}};
        for (int t = 0; t < 6; t++) {
            CrystalCuts x = new CrystalCuts();
            x.family(due[t][0], due[t][1], due[t][2], due[t][3], 50);
            for (int turn = 0; turn < 6; turn++) {
                int want = turn == t || (t == 3 && turn == 2) ? 1 : 0;
                C.due("family " + t + ", stays(" + turn + ")", x.stays(turn), want);
            }
        }
        // The points are what is turned: HIDDEN planes do not matter.
        CrystalCuts y = new CrystalCuts();
        y.plane(1, 2, 3, 60);
        y.plane(3, 3, 3, 60);
        y.plane(-3, 3, 3, 60);
        C.due("a HIDDEN plane that touches, stays(1)", y.stays(1), 1);
        CrystalCuts z = new CrystalCuts();
        z.plane(2, 1, 0, 60);
        for (int turn = 0; turn < 6; turn++) {
            C.due("HIDDEN only, stays(" + turn + ")", z.stays(turn), 1);
        }
        refuses(z, -2, 0, v -> z.stays(v), LEAST, -1, 6, MOST);
    }

    private static void p17Symmetry() {
        CrystalCuts x = new CrystalCuts();
        C.due("box", x.symmetry(), 63);
        x.off(0, 10);
        C.due("one side nearer", x.symmetry(), 0);
        x.off(1, 10);
        C.due("two sides nearer", x.symmetry(), 1 | 2 | 4);
        x.off(2, 10);
        x.off(3, 10);
        C.due("four sides nearer", x.symmetry(), 1 | 2 | 4 | 8 | 32);
        x.family(8, 1, 2, 3, 30);
        C.due("a screw of four", x.symmetry(), 4 | 8);
        C.due("told(5)", x.told(5), 5);
    }

    private static void p18Hides() {
        CrystalCuts x = new CrystalCuts();
        C.due("hides(1, 0, 0, 0)", x.hides(1, 0, 0, 0), 21);
        C.due("hides(1, 0, 0, 1)", x.hides(1, 0, 0, 1), 19);
        C.due("hides(1, 1, 0, 0)", x.hides(1, 1, 0, 0), 41);
        C.due("hides(1, 1, 0, 1)", x.hides(1, 1, 0, 1), 39);
        C.due("hides(1, 1, 1, 0), at 60 a CORNER", x.hides(1, 1, 1, 0), -1);
        C.due("hides(1, 1, 1, 1)", x.hides(1, 1, 1, 1), 59);
        C.due("hides(3, 3, 3, 0)", x.hides(3, 3, 3, 0), -1);
        C.due("hides(3, 3, 3, 1)", x.hides(3, 3, 3, 1), 60);
        x.plane(2, 2, 2, 59);
        C.due("farthest 59/2, least", x.hides(1, 1, 1, 0), 30);
        C.due("farthest 59/2, how many", x.hides(1, 1, 1, 1), 29);
        C.due("farthest 59, least", x.hides(2, 2, 2, 0), 60);
        C.due("farthest 59, how many", x.hides(2, 2, 2, 1), 58);
        x.plane(-3, 0, 0, 1);
        C.due("farthest 1/3, least", x.hides(-1, 0, 0, 0), 1);
        C.due("farthest 1/3, how many", x.hides(-1, 0, 0, 1), 0);
        x.corner(0, 0);
        long sum = x.digest();
        x.hides(2, 1, 0, 0);
        x.hides(2, 1, 0, 1);
        C.due("all stays", x.digest(), sum);
        refuses(x, -2, 0, v -> x.hides(v, 0, 0, 0), LEAST, -4, 0, 4, MOST);
        refuses(x, -2, 0, v -> x.hides(0, v, 0, 0), LEAST, -4, 0, 4, MOST);
        refuses(x, -2, 0, v -> x.hides(0, 0, v, 0), LEAST, -4, 0, 4, MOST);
        refuses(x, -2, 0, v -> x.hides(1, 0, 0, v), LEAST, -1, 2, MOST);
        CrystalCuts full = full();
        refuses(full, -4, 2, v -> full.hides(v, 0, 0, 0), 1);
        refuses(full, -2, 0, v -> full.hides(v, 0, 0, 0), 4);
        full.drop(31);
        C.due("31 planes", full.hides(1, 1, 1, 1) >= 0 ? 1 : 0, 1);
    }

    private static void p19Spare() {
        CrystalCuts x = new CrystalCuts();
        refuses(x, -3, 1, v -> x.spare(v), 0, 1);
        refuses(x, -2, 0, v -> x.spare(v), LEAST, -1, 2, MOST);
        x.plane(1, 1, 1, 50);
        x.plane(-1, 0, 0, 20);
        C.due("HIDDEN is spared", x.spare(0), 7);
        C.due("10 are left", x.spare(1), 10);
        x.plane(1, 1, 1, 50);
        C.due("each alone may go: the least", x.spare(0), 6);
        C.due("10 are left", x.spare(1), 10);
        x.anew();
        // Without the octahedron's near cut at x the corners of it come back.
        x.plane(1, 1, 1, 30);
        x.plane(1, 0, 0, 10);
        long sum = x.digest();
        C.due("spare(0)", x.spare(0), 7);
        C.due("spare(1)", x.spare(1), 10);
        C.due("all stays", x.digest(), sum);
        x.drop(6);
        C.due("spare(0) anew", x.spare(0), 6);
        C.due("spare(1) anew", x.spare(1), 8);
        refuses(x, -2, 0, v -> x.spare(v), LEAST, -1, 2, MOST);
    }

    private static void p20Type() {
        CrystalCuts x = new CrystalCuts();
        C.due("type(0)", x.type(0), 1);
        C.due("type(127)", x.type(127), 2);
        refuses(x, -2, 0, v -> x.type(v), LEAST, -1, 128, MOST);
        for (int i = 3; i <= 120; i++) {
            C.due("type " + i, x.type(32), i);
        }
        refuses(x, -4, 2, v -> x.type(v), 0, 32, 127);
        refuses(x, -2, 0, v -> x.type(v), -1, 128);
        C.due("told(3)", x.told(3), 120);
        C.due("told(5)", x.told(5), 0);
    }

    private static void p21Clear() {
        CrystalCuts x = new CrystalCuts();
        C.due("clear() of none", x.clear(), 0);
        write(x, "111/30;");
        C.due("clear()", x.clear(), 7);
        C.due("told(3)", x.told(3), 0);
        C.due("clear() again", x.clear(), 0);
        C.due("type behind clear()", x.type(59), 1);
        C.due("reads", x.reads(), -10);
    }

    private static void p22Reads() {
        read("111/30;", 1);
        read(" 1 - 2 - 3 / 05 ; ", 1);
        read("-0-1-0/60;", 1);
        read("110/9;101/9;011/9;", 3);
        read("012345:111/30;", 8);
        read("0 0 0:111/30;", 2);
        read("111/30;012345:110/25;", 13);
        fault("", 0);
        fault("   ", 3);
        fault(";", 0);
        fault("1", 1);
        fault("-", 1);
        fault("11 ", 3);
        fault("111", 3);
        fault("111/", 4);
        fault("111/ ", 5);
        fault("111/;", 4);
        fault("111/ ;", 5);
        fault("111/-5;", 4);
        fault("111/30", 6);
        fault("111/30 ", 7);
        fault("111/3 0;", 6);
        fault("111/30x;", 6);
        fault("111/61;", 4);
        fault("111/00;", 4);
        fault("111/0", 4);
        fault("111/ 100;", 5);
        fault("111/4294967297;", 4);
        fault("000/9;", 3);
        fault("-00 0 /9;", 6);
        fault("000;", 3);
        fault("1111/9;", 3);
        fault("1-/9;", 2);
        fault("-;", 1);
        fault("411/9;", 0);
        fault("1a1/9;", 1);
        fault(":111/9;", 0);
        fault(" : 111/9;", 1);
        fault("6:111/9;", 0);
        fault("0-:111/9;", 1);
        fault("0 6:111/9;", 2);
        fault("111/9:;", 3);
        fault("111/9:", 3);
        fault("0::111/9;", 2);
        fault("0:1:11/9;", 3);
        fault("0:", 2);
        fault("0:;", 2);
        fault("111/9;:", 6);
        fault("111/9; ;", 7);
        fault("111/9;0", 7);
        fault("111/9;111/61;", 10);
        fault("111/9;0:000/9;", 11);
        // 48 signs, and behind a good one: nothing of it comes.
        fault("012345:123/9;", 12);
        fault("111/9;012345:123/9;", 18);
        fault("012345:123/9", 12);
        fault("\t111/9;", 0);
        readsInOrder();
        readsToTheLastPlace();
    }

    private static void readsInOrder() {
        CrystalCuts x = new CrystalCuts();
        x.plane(1, 0, 0, 3);
        write(x, "4:12-3/17; 0-21/8;");
        C.due("reads", x.reads(), 4);
        plane(x, 7, -3, 1, 2, 17);
        plane(x, 8, 1, 2, -3, 17);
        plane(x, 9, 2, -3, 1, 17);
        plane(x, 10, 0, -2, 1, 8);
        C.due("told(5)", x.told(5), 2);
        C.due("reads again", x.reads(), 4);
        C.due("told(4)", x.told(4), 15);
        C.due("told(3)", x.told(3), 18);
        C.due("back()", x.back(), 2);
        C.due("told(4)", x.told(4), 11);
    }

    private static void readsToTheLastPlace() {
        CrystalCuts x = new CrystalCuts();
        write(x, "012345:120/50;100/19;010/18;");
        C.due("reads 26", x.reads(), 26);
        C.due("told(4)", x.told(4), 32);
        C.due("one more", x.reads(), -10 - 13);
        write(x, "001/17;");
        C.due("one more", x.reads(), -10 - 6);
        C.due("told(5)", x.told(5), 1);
        C.due("told(2)", x.told(2), 0);
        x.drop(31);
        C.due("the last", x.reads(), 1);
        plane(x, 31, 0, 0, 1, 17);
    }

    private static void p23Back() {
        CrystalCuts x = new CrystalCuts();
        refuses(x, -3, 1, v -> x.back(), 0, 1);
        x.plane(1, 1, 1, 30);
        x.family(1, 1, 1, 0, 30);
        x.off(0, 5);
        x.drop(6);
        x.draw(3, 4);
        C.due("told(5)", x.told(5), 5);
        C.due("told(4)", x.told(4), 10);
        x.corner(0, 0);
        x.type(7);
        long above = x.part(0);
        C.due("back() 4", x.back(), 4);
        C.due("told(4)", x.told(4), 8);
        plane(x, 6, -1, -1, 0, 30);
        C.due("told(3)", x.told(3), 1);
        C.due("part(0)", x.part(0), above);
        C.due("back() 3", x.back(), 3);
        plane(x, 6, 1, 1, 1, 30);
        C.due("of(0, 3)", x.of(0, 3), 5);
        C.due("back() 2", x.back(), 2);
        C.due("of(0, 3)", x.of(0, 3), 20);
        C.due("back() 1", x.back(), 1);
        C.due("told(4)", x.told(4), 7);
        C.due("back() 0", x.back(), 0);
        C.due("told(4)", x.told(4), 6);
        C.due("all(3)", x.all(3), 8);
        refuses(x, -3, 1, v -> x.back(), 0);
        olderStatesAreLost();
    }

    private static void olderStatesAreLost() {
        CrystalCuts x = new CrystalCuts();
        for (int v = 1; v <= 12; v++) {
            x.off(0, v);
            C.due("told(5)", x.told(5), Math.min(5, v));
        }
        for (int left = 4; left >= 0; left--) {
            C.due("back()", x.back(), left);
            C.due("of(0, 3)", x.of(0, 3), 7 + left);
        }
        C.due("back()", x.back(), -3);
        C.due("of(0, 3)", x.of(0, 3), 7);
        x.anew();
        C.due("told(5)", x.told(5), 1);
        C.due("back()", x.back(), 0);
        C.due("of(0, 3)", x.of(0, 3), 7);
    }

    private static void p24Told() {
        CrystalCuts x = new CrystalCuts();
        x.plane(4, 0, 0, 1);
        x.of(6, 0);
        x.member(64, 1, 0, 0, 0);
        x.part(2);
        x.edge(0, 0, 0);
        x.told(6);
        x.told(-1);
        x.told(LEAST);
        x.told(MOST);
        x.back();
        x.spare(0);
        x.corner(8, 0);
        x.family(63, 1, 2, 3, 5);
        x.reads();
        x.meets(8, 0);
        x.member(0, 1, 0, 0, 1);
        int[] due = {9, 3, 1, 0, 6, 0};
        for (int what = 0; what <= 5; what++) {
            C.due("told(" + what + ")", x.told(what), due[what]);
        }
        refuses(x, -2, 0, v -> x.told(v), LEAST, -1, 6, MOST);
    }

    private static long mix(long sum, long... values) {
        long whole = sum;
        for (long v : values) {
            whole = 31 * whole + v;
        }
        return whole;
    }

    private static void p25Digest() {
        CrystalCuts x = new CrystalCuts();
        long sum = mix(2179, 0, 0, 0, 0, 6, 0);
        sum = mix(sum, 1, 0, 0, 20, 1, -1, 0, 0, 20, 1, 0, 1, 0, 20, 1);
        sum = mix(sum, 0, -1, 0, 20, 1, 0, 0, 1, 20, 1, 0, 0, -1, 20, 1);
        sum = mix(sum, 6, 8, 12, 0, 1);
        for (int j = 0; j < 8; j++) {
            sum = mix(sum, j >> 2 == 0 ? -20 : 20, 1, (j >> 1 & 1) == 0 ? -20 : 20, 1, (j & 1) == 0 ? -20 : 20, 1);
        }
        C.due("digest of the box", x.digest(), sum);
        C.due("digest again", x.digest(), sum);
        x.draw(77, 20);
        x.type(32);
        x.told(9);
        x.back();
        x.back();
        x.draw(78, 26);
        x.plane(1, 1, 1, 1);
        x.reach(1, 2, 3);
        C.due("digest told by the other calls", x.digest(), byCalls(x));
    }

    private static long byCalls(CrystalCuts x) {
        long sum = 2179;
        for (int what = 0; what <= 5; what++) {
            sum = mix(sum, x.told(what));
        }
        for (int p = 0; p < x.told(4); p++) {
            for (int what = 0; what <= 4; what++) {
                sum = mix(sum, x.of(p, what));
            }
        }
        sum = mix(sum, x.all(1), x.all(3), x.all(4), x.part(0), x.part(1));
        for (int j = 0; j < x.all(3); j++) {
            for (int a = 0; a < 3; a++) {
                x.corner(j, a);
                sum = mix(sum, x.part(0), x.part(1));
            }
        }
        return sum;
    }
}
