/** Promises 1 to 9, sentence by sentence: the last value that is taken, the first that is refused, and what stays. */
public final class PlaneBoundsTest {
    private static final Checks C = new Checks("PlaneBoundsTest");
    private static final SideBySide S = new SideBySide(C);
    private static final int MOST = Integer.MAX_VALUE;
    private static final int[] OUTSIDE_SIGN = Ints.outside(-3, 3);
    private static final int[] OUTSIDE_OFF = Ints.outside(1, 60);
    private static final int[] OUTSIDE_TURNS = Ints.outside(0, 63);

    public static void main(String[] args) {
        C.runAll(PlaneBoundsTest.class);
        C.sawPromises(1, 9);
        C.end();
    }

    private static void bad(Start start, int answer, String told, SideBySide.Call call) {
        S.refused(start, SideBySide.BADS, answer, told, call);
    }

    private static void full(Start start, String told, SideBySide.Call call) {
        S.refused(start, SideBySide.FULLS, -4, told, call);
    }

    private static void plane(CrystalCuts x, int p, int... want) {
        for (int what = 0; what <= 3; what++) {
            C.due("of(" + p + ", " + what + ")", x.of(p, what), want[what]);
        }
    }

    private static void refusedNone(CrystalCuts x) {
        for (int kind = 0; kind < 3; kind++) {
            C.due("told(" + kind + ")", x.told(kind), 0);
        }
    }

    private static CrystalCuts withPlanes(int count) {
        CrystalCuts x = new CrystalCuts();
        for (int p = 6; p < count; p++) {
            x.plane(p % 4, 1, 2, 20 + p);
        }
        return x;
    }

    // ---- 1: a new object

    private static void p01BoxAlone() {
        C.promise(1, "As told; the BOX alone.");
        CrystalCuts x = new CrystalCuts();
        plane(x, 0, 1, 0, 0, 20);
        plane(x, 1, -1, 0, 0, 20);
        plane(x, 2, 0, 1, 0, 20);
        plane(x, 3, 0, -1, 0, 20);
        plane(x, 4, 0, 0, 1, 20);
        plane(x, 5, 0, 0, -1, 20);
        int[] told = {0, 0, 0, 0, 6, 0};
        for (int what = 0; what <= 5; what++) {
            C.due("told(" + what + ")", x.told(what), told[what]);
        }
        int[] all = {6, 6, 0, 8, 12, 4, 3};
        for (int what = 0; what <= 6; what++) {
            C.due("all(" + what + ")", x.all(what), all[what]);
        }
        C.due("of(6, 0)", x.of(6, 0), -100);
    }

    private static void p01EmptyStates() {
        C.promise(1, "the BOX alone");
        S.refused(Start.NEW, SideBySide.NOS, -3, "back()", x -> x.back());
        S.refused(Start.NEW, SideBySide.NOS, -3, "spare(0)", x -> x.spare(0));
        S.changesNothing(Start.NEW, -10, "reads()", x -> x.reads());
        S.changesNothing(Start.NEW, 0, "clear()", x -> x.clear());
        S.changesNothing(Start.NEW, 0, "part(0)", x -> x.part(0));
        S.changesNothing(Start.NEW, 1, "part(1)", x -> x.part(1));
    }

    private static void p01ObjectsApart() {
        C.promise(1, "As told");
        CrystalCuts x = new CrystalCuts();
        CrystalCuts other = Start.FULL.make();
        S.fractionsAlike("beside another object", x, new CrystalCuts());
        S.alike("beside another object", x, new CrystalCuts(), -1);
        C.due("the other's PLANES", other.all(0), 32);
    }

    // ---- 2: plane

    private static void p02ItsNumber() {
        C.promise(2, "A PLANE: its number.");
        CrystalCuts x = new CrystalCuts();
        for (int p = 6; p < 32; p++) {
            C.due("plane", x.plane(p % 4, -1, 3, p), p);
            plane(x, p, p % 4, -1, 3, p);
            C.due("told(4)", x.told(4), p + 1);
        }
        refusedNone(x);
    }

    private static void p02State() {
        C.promise(2, "S.");
        for (int v : new int[] {-3, 3}) {
            S.leavesState(Start.NEW, 6, "plane(" + v + ", 0, 0, 1)", x -> x.plane(v, 0, 0, 1));
            S.leavesState(Start.USED, 10, "plane(0, " + v + ", 0, 60)", x -> x.plane(0, v, 0, 60));
            S.leavesState(Start.USED, 10, "plane(0, 0, " + v + ", 60)", x -> x.plane(0, 0, v, 60));
        }
    }

    private static void p02Bad() {
        C.promise(2, "BAD");
        for (Start start : Start.values()) {
            for (int v : OUTSIDE_SIGN) {
                bad(start, -2, "plane(" + v + ", 1, 1, 30)", x -> x.plane(v, 1, 1, 30));
                bad(start, -2, "plane(1, " + v + ", 1, 30)", x -> x.plane(1, v, 1, 30));
                bad(start, -2, "plane(1, 1, " + v + ", 30)", x -> x.plane(1, 1, v, 30));
            }
            for (int v : OUTSIDE_OFF) {
                bad(start, -2, "plane(1, 1, 1, " + v + ")", x -> x.plane(1, 1, 1, v));
            }
            bad(start, -2, "plane(0, 0, 0, 30)", x -> x.plane(0, 0, 0, 30));
            bad(start, -2, "plane(MOST, MOST, MOST, MOST)", x -> x.plane(MOST, MOST, MOST, MOST));
        }
    }

    private static void p02Full() {
        C.promise(2, "FULL");
        full(Start.FULL, "plane(1, 0, 0, 1)", x -> x.plane(1, 0, 0, 1));
        full(Start.FULL, "plane(-3, -3, -3, 60)", x -> x.plane(-3, -3, -3, 60));
        CrystalCuts x = withPlanes(31);
        C.due("the last plane", x.plane(3, 3, 3, 60), 31);
        C.due("one more", x.plane(3, 3, 3, 60), -4);
        C.due("again", x.plane(3, 3, 3, 60), -4);
        C.due("told(2)", x.told(2), 2);
        x.drop(6);
        C.due("behind a drop", x.plane(3, 3, 3, 60), 31);
        C.due("told(2)", x.told(2), 2);
    }

    // ---- 3: family

    private static void p03InOrderHowMany() {
        C.promise(3, "A FAMILY comes, in order, each of OFF: how many.");
        CrystalCuts x = new CrystalCuts();
        x.plane(1, 1, 1, 9);
        C.due("family(63, -1, 0, 0, 60)", x.family(63, -1, 0, 0, 60), 6);
        plane(x, 7, -1, 0, 0, 60);
        plane(x, 8, 0, -1, 0, 60);
        plane(x, 9, 0, 0, -1, 60);
        plane(x, 10, 0, 0, 1, 60);
        plane(x, 11, 0, 1, 0, 60);
        plane(x, 12, 1, 0, 0, 60);
        C.due("told(4)", x.told(4), 13);
        C.due("family(8, 3, -2, -3, 1)", x.family(8, 3, -2, -3, 1), 4);
        plane(x, 13, -3, 2, -3, 1);
        plane(x, 14, -2, -3, -3, 1);
        plane(x, 15, 2, 3, -3, 1);
        plane(x, 16, 3, -2, -3, 1);
        refusedNone(x);
    }

    private static void p03OneState() {
        C.promise(3, "S.");
        S.leavesState(Start.NEW, 1, "family(0, -3, -3, -3, 1)", x -> x.family(0, -3, -3, -3, 1));
        S.leavesState(Start.NEW, 24, "family(63, 3, 3, 2, 60)", x -> x.family(63, 3, 3, 2, 60));
        S.leavesState(Start.USED, 2, "family(1, 3, 2, 1, 30)", x -> x.family(1, 3, 2, 1, 30));
    }

    private static void p03Bad() {
        C.promise(3, "BAD: turns 0 .. 63");
        for (Start start : Start.values()) {
            for (int v : OUTSIDE_TURNS) {
                bad(start, -2, "family(" + v + ", 1, 1, 1, 30)", x -> x.family(v, 1, 1, 1, 30));
            }
            for (int v : OUTSIDE_SIGN) {
                bad(start, -2, "family(0, " + v + ", 1, 1, 30)", x -> x.family(0, v, 1, 1, 30));
                bad(start, -2, "family(0, 1, " + v + ", 1, 30)", x -> x.family(0, 1, v, 1, 30));
                bad(start, -2, "family(0, 1, 1, " + v + ", 30)", x -> x.family(0, 1, 1, v, 30));
            }
            for (int v : OUTSIDE_OFF) {
                bad(start, -2, "family(0, 1, 1, 1, " + v + ")", x -> x.family(0, 1, 1, 1, v));
            }
            bad(start, -2, "family(63, 0, 0, 0, 30)", x -> x.family(63, 0, 0, 0, 30));
        }
        for (int turns = 0; turns <= 63; turns++) {
            CrystalCuts x = new CrystalCuts();
            C.holds("family(" + turns + ", 1, 0, 0, 1) is taken", x.family(turns, 1, 0, 0, 1) >= 1);
            refusedNone(x);
        }
    }

    private static void p03FullNoneComes() {
        C.promise(3, "FULL (none comes)");
        full(Start.NEW, "family(63, 1, 2, 3, 30): 6 and 48", x -> x.family(63, 1, 2, 3, 30));
        full(Start.USED, "family(63, 1, 1, 2, 30): 10 and 24", x -> x.family(63, 1, 1, 2, 30));
        full(Start.FULL, "family(0, 1, 1, 1, 30): 32 and 1", x -> x.family(0, 1, 1, 1, 30));
        CrystalCuts x = withPlanes(31);
        C.due("31 and 2", x.family(1, 1, 1, 1, 30), -4);
        C.due("none came", x.told(4), 31);
        C.due("told(2)", x.told(2), 1);
        C.due("31 and 1", x.family(0, 1, 1, 1, 30), 1);
        CrystalCuts y = withPlanes(24);
        C.due("24 and 8", y.family(63, 1, 1, 1, 30), 8);
        C.due("told(4)", y.told(4), 32);
        plane(y, 31, 1, 1, 1, 30);
        CrystalCuts z = withPlanes(25);
        C.due("25 and 8", z.family(63, 1, 1, 1, 30), -4);
        C.due("none came", z.told(4), 25);
    }

    // ---- 4: off

    private static void p04WhatItWas() {
        C.promise(4, "OFF of a PLANE becomes v (of the BOX, too): what it was.");
        for (int p = 0; p < 6; p++) {
            CrystalCuts x = new CrystalCuts();
            C.due("off(" + p + ", 1)", x.off(p, 1), 20);
            C.due("off(" + p + ", 60)", x.off(p, 60), 1);
            C.due("off(" + p + ", 60) again", x.off(p, 60), 60);
            for (int q = 0; q < 6; q++) {
                C.due("of(" + q + ", 3)", x.of(q, 3), q == p ? 60 : 20);
            }
            refusedNone(x);
        }
        CrystalCuts full = Start.FULL.make();
        C.due("off(31, 1)", full.off(31, 1), 43);
        plane(full, 31, 3, 2, 1, 1);
        C.due("off(6, 60)", full.off(6, 60), 16);
        plane(full, 6, -1, -1, 0, 60);
    }

    private static void p04State() {
        C.promise(4, "S.");
        for (int v : new int[] {1, 20, 60}) {
            S.leavesState(Start.NEW, 20, "off(0, " + v + ")", x -> x.off(0, v));
            S.leavesState(Start.USED, 20, "off(5, " + v + ")", x -> x.off(5, v));
            S.leavesState(Start.USED, 50, "off(9, " + v + ")", x -> x.off(9, v));
            S.leavesState(Start.FULL, 43, "off(31, " + v + ")", x -> x.off(31, v));
        }
    }

    private static void p04Bad() {
        C.promise(4, "BAD");
        for (Start start : Start.values()) {
            for (int v : Ints.outside(0, start.planes - 1)) {
                bad(start, -2, "off(" + v + ", 30)", x -> x.off(v, 30));
            }
            for (int v : OUTSIDE_OFF) {
                bad(start, -2, "off(0, " + v + ")", x -> x.off(0, v));
            }
        }
    }

    // ---- 5: drop

    private static void p05OneNearer() {
        C.promise(5, "A PLANE goes (those behind it are one nearer): how many are left.");
        CrystalCuts x = withPlanes(9);
        C.due("drop(8), the last", x.drop(8), 8);
        plane(x, 6, 2, 1, 2, 26);
        plane(x, 7, 3, 1, 2, 27);
        C.due("drop(6), the first", x.drop(6), 7);
        plane(x, 6, 3, 1, 2, 27);
        C.due("drop(6), the only one", x.drop(6), 6);
        refusedNone(x);
        CrystalCuts full = withPlanes(32);
        C.due("drop(6) of 32", full.drop(6), 31);
        for (int p = 6; p < 31; p++) {
            plane(full, p, (p + 1) % 4, 1, 2, 21 + p);
        }
        C.due("of(31, 0)", full.of(31, 0), -100);
        C.due("drop(30)", full.drop(30), 30);
    }

    private static void p05State() {
        C.promise(5, "S.");
        S.leavesState(Start.USED, 9, "drop(6)", x -> x.drop(6));
        S.leavesState(Start.USED, 9, "drop(9)", x -> x.drop(9));
        S.leavesState(Start.FULL, 31, "drop(6)", x -> x.drop(6));
        S.leavesState(Start.FULL, 31, "drop(31)", x -> x.drop(31));
    }

    private static void p05Bad() {
        C.promise(5, "BAD: one of the BOX, too.");
        for (Start start : Start.values()) {
            for (int v : Ints.outside(6, start.planes - 1)) {
                bad(start, -2, "drop(" + v + ")", x -> x.drop(v));
            }
            for (int p = 0; p < 6; p++) {
                int v = p;
                bad(start, -2, "drop(" + v + ")", x -> x.drop(v));
            }
        }
        bad(Start.NEW, -2, "drop(6)", x -> x.drop(6));
    }

    // ---- 6: anew

    private static void p06HowManyThereWere() {
        C.promise(6, "All PLANES but the BOX go, its OFFS are 20: how many PLANES there were (the BOX's, too).");
        for (Start start : Start.values()) {
            CrystalCuts x = start.make();
            C.due(start + ", anew()", x.anew(), start.planes);
            C.due(start + ", told(4)", x.told(4), 6);
            for (int p = 0; p < 6; p++) {
                int side = p % 2 == 0 ? 1 : -1;
                plane(x, p, p / 2 == 0 ? side : 0, p / 2 == 1 ? side : 0, p / 2 == 2 ? side : 0, 20);
            }
            C.due(start + ", all(3)", x.all(3), 8);
            C.due(start + ", anew() again", x.anew(), 6);
            C.due(start + ", told(3)", x.told(3), start.bytes);
        }
        CrystalCuts y = new CrystalCuts();
        for (int p = 0; p < 6; p++) {
            y.off(p, 1 + p);
        }
        C.due("anew() of the BOX", y.anew(), 6);
        for (int p = 0; p < 6; p++) {
            C.due("of(" + p + ", 3)", y.of(p, 3), 20);
        }
    }

    private static void p06State() {
        C.promise(6, "S.");
        S.leavesState(Start.NEW, 6, "anew()", x -> x.anew());
        S.leavesState(Start.USED, 10, "anew()", x -> x.anew());
        S.leavesState(Start.FULL, 32, "anew()", x -> x.anew());
    }

    // ---- 7: draw

    /** X by the words of the promise, on numbers that can not run over. */
    private static void drawn(CrystalCuts x, int seed, int n) {
        java.math.BigInteger big = java.math.BigInteger.valueOf(seed);
        for (int p = 6; p < 6 + n; p++) {
            big = big.multiply(java.math.BigInteger.valueOf(1103515245)).add(java.math.BigInteger.valueOf(12345));
            big = big.mod(java.math.BigInteger.valueOf(2147483648L));
            long v = big.longValueExact();
            int h = (int) (v / 65536 % 7) - 3;
            int k = (int) (v / 1024 % 7) - 3;
            int l = (int) (v / 32768 % 7) - 3;
            plane(x, p, h == 0 && k == 0 && l == 0 ? 1 : h, k, l, (int) (10 + v / 512 % 31));
        }
    }

    private static void p07Drawn() {
        C.promise(7, "n (1 .. 26) PLANES are drawn behind the BOX");
        for (int seed : new int[] {0, 1, 2, 499999, 999998, 999999}) {
            for (int n : new int[] {1, 2, 25, 26}) {
                CrystalCuts x = new CrystalCuts();
                Oracle o = new Oracle();
                C.due("draw(" + seed + ", " + n + ")", x.draw(seed, n), o.draw(seed, n));
                C.due("told(4)", x.told(4), 6 + n);
                drawn(x, seed, n);
                refusedNone(x);
            }
        }
    }

    private static void p07HowManyCorners() {
        C.promise(7, "how many CORNERS THE CRYSTAL has");
        for (int seed = 0; seed < 1000000; seed += 33331) {
            CrystalCuts x = new CrystalCuts();
            Oracle o = new Oracle();
            int n = 1 + seed / 33331 % 26;
            C.due("draw(" + seed + ", " + n + ")", x.draw(seed, n), o.draw(seed, n));
            C.due("all(3)", x.all(3), o.all(3));
        }
    }

    private static void p07OffsStay() {
        C.promise(7, "(that stays, with its OFFS; all others go)");
        CrystalCuts x = Start.FULL.make();
        x.off(3, 60);
        x.draw(999999, 1);
        C.due("told(4)", x.told(4), 7);
        for (int p = 0; p < 6; p++) {
            C.due("of(" + p + ", 3)", x.of(p, 3), p == 3 ? 60 : 10);
        }
        C.due("of(7, 0)", x.of(7, 0), -100);
    }

    /** By 7, X by 65536 and X by 32768 are never both 3: the words "all 0: h is 1" are never needed. */
    private static void p07NeverAllNought() {
        C.promise(7, "(all 0: h is 1)");
        for (int seed = 0; seed < 1000000; seed += 5003) {
            CrystalCuts x = new CrystalCuts();
            x.draw(seed, 26);
            for (int p = 6; p < 32; p++) {
                C.holds("a SIGN at " + p, x.of(p, 0) != 0 || x.of(p, 1) != 0 || x.of(p, 2) != 0);
            }
        }
    }

    private static void p07State() {
        C.promise(7, "S.");
        S.leavesState(Start.NEW, new Oracle().draw(0, 26), "draw(0, 26)", x -> x.draw(0, 26));
        S.leavesState(Start.USED, new Oracle().draw(999999, 1), "draw(999999, 1)", x -> x.draw(999999, 1));
    }

    private static void p07Bad() {
        C.promise(7, "BAD");
        for (Start start : Start.values()) {
            for (int v : Ints.outside(0, 999999)) {
                bad(start, -2, "draw(" + v + ", 1)", x -> x.draw(v, 1));
            }
            for (int v : Ints.outside(1, 26)) {
                bad(start, -2, "draw(1, " + v + ")", x -> x.draw(1, v));
            }
        }
    }

    // ---- 8: of

    private static void p08Each() {
        C.promise(8, "Of a PLANE: h (0), k (1), l (2), OFF (3), whether it SHOWS (4), CORNERS ON it (5), EDGES of it (6).");
        int[][] used = {{1, 0, 0, 20, 1, 5, 5}, {-1, 0, 0, 20, 1, 5, 5}, {1, 1, 1, 50, 1, 3, 3}, {1, 1, 0, 40, 0, 2, 0},
            {-2, -2, -2, 59, 1, 3, 3}, {1, 1, 1, 50, 0, 3, 0}};
        int[] numbers = {0, 1, 6, 7, 8, 9};
        for (int i = 0; i < numbers.length; i++) {
            for (int what = 0; what <= 6; what++) {
                int p = numbers[i];
                int w = what;
                S.changesNothing(Start.USED, used[i][what], "of(" + p + ", " + w + ")", x -> x.of(p, w));
            }
        }
        int[] last = {3, 2, 1, 43, 1, 3, 3};
        for (int what = 0; what <= 6; what++) {
            int w = what;
            S.changesNothing(Start.FULL, last[what], "of(31, " + w + ")", x -> x.of(31, w));
            S.changesNothing(Start.NEW, new int[] {0, 0, -1, 20, 1, 4, 4}[what], "of(5, " + w + ")", x -> x.of(5, w));
        }
    }

    private static void p08Bad() {
        C.promise(8, "BAD: -100.");
        for (Start start : Start.values()) {
            for (int v : Ints.outside(0, start.planes - 1)) {
                bad(start, -100, "of(" + v + ", 0)", x -> x.of(v, 0));
                bad(start, -100, "of(" + v + ", 6)", x -> x.of(v, 6));
            }
            for (int v : Ints.outside(0, 6)) {
                bad(start, -100, "of(0, " + v + ")", x -> x.of(0, v));
            }
        }
    }

    // ---- 9: member

    private static void p09HowMany() {
        C.promise(9, "How many SIGNS the FAMILY of a SIGN by a set of TURNS has (m NONE)");
        for (Start start : Start.values()) {
            S.changesNothing(start, 48, "member(63, 1, 2, 3, -1)", x -> x.member(63, 1, 2, 3, -1));
            S.changesNothing(start, 1, "member(0, 3, 3, 3, -1)", x -> x.member(0, 3, 3, 3, -1));
            S.changesNothing(start, 1, "member(16, -3, -3, -3, -1)", x -> x.member(16, -3, -3, -3, -1));
        }
    }

    private static void p09TheMth() {
        C.promise(9, "the m-th: 100 times (h and 3), 10 times (k and 3), and l and 3");
        S.changesNothing(Start.USED, 12, "member(63, 1, 2, 3, 0)", x -> x.member(63, 1, 2, 3, 0));
        S.changesNothing(Start.USED, 654, "member(63, 1, 2, 3, 47)", x -> x.member(63, 1, 2, 3, 47));
        S.changesNothing(Start.NEW, 0, "member(0, -3, -3, -3, 0)", x -> x.member(0, -3, -3, -3, 0));
        S.changesNothing(Start.NEW, 666, "member(0, 3, 3, 3, 0)", x -> x.member(0, 3, 3, 3, 0));
        S.changesNothing(Start.NEW, 334, "member(0, 0, 0, 1, 0)", x -> x.member(0, 0, 0, 1, 0));
        S.changesNothing(Start.FULL, 336, "member(0, 0, 0, 3, 0)", x -> x.member(0, 0, 0, 3, 0));
    }

    private static void p09NotSoMany() {
        C.promise(9, "-5: not so many.");
        for (Start start : Start.values()) {
            S.changesNothing(start, -5, "member(63, 1, 2, 3, 48)", x -> x.member(63, 1, 2, 3, 48));
            S.changesNothing(start, -5, "member(0, 1, 2, 3, 1)", x -> x.member(0, 1, 2, 3, 1));
            S.changesNothing(start, -5, "member(0, 1, 2, 3, MOST)", x -> x.member(0, 1, 2, 3, MOST));
            S.changesNothing(start, -5, "member(63, 1, 2, 3, MOST)", x -> x.member(63, 1, 2, 3, MOST));
            S.changesNothing(start, -5, "member(0, 1, 2, 3, 256)", x -> x.member(0, 1, 2, 3, 256));
        }
    }

    private static void p09Bad() {
        C.promise(9, "BAD: -10.");
        for (Start start : Start.values()) {
            for (int v : OUTSIDE_TURNS) {
                bad(start, -10, "member(" + v + ", 1, 1, 1, 0)", x -> x.member(v, 1, 1, 1, 0));
            }
            for (int v : OUTSIDE_SIGN) {
                bad(start, -10, "member(0, " + v + ", 1, 1, 0)", x -> x.member(0, v, 1, 1, 0));
                bad(start, -10, "member(0, 1, " + v + ", 1, 0)", x -> x.member(0, 1, v, 1, 0));
                bad(start, -10, "member(0, 1, 1, " + v + ", 0)", x -> x.member(0, 1, 1, v, 0));
            }
            for (int v : Ints.below(-1)) {
                bad(start, -10, "member(0, 1, 1, 1, " + v + ")", x -> x.member(0, 1, 1, 1, v));
            }
            bad(start, -10, "member(0, 0, 0, 0, -1)", x -> x.member(0, 0, 0, 0, -1));
            bad(start, -10, "member(63, 0, 0, 0, MOST)", x -> x.member(63, 0, 0, 0, MOST));
        }
    }
}
