/** Two objects that were made by the same calls, but for one: what that one call changed. */
final class SideBySide {
    /** One call, or a few. */
    interface Call {
        long on(CrystalCuts x);
    }

    static final int BADS = 0;
    static final int NOS = 1;
    static final int FULLS = 2;
    private static final int NOTHING = -1;

    private final Checks c;

    SideBySide(Checks c) {
        this.c = c;
    }

    /** The call is refused: its answer, one more of told(kind), and all else as it was. */
    void refused(Start start, int kind, long answer, String told, Call call) {
        CrystalCuts a = start.make();
        CrystalCuts b = start.make();
        String whole = start + ", " + told;
        c.due(whole, call.on(a), answer);
        fractionsAlike(whole, a, b);
        alike(whole, a, b, kind);
    }

    /** The call answers and sets THE FRACTION, and nothing else is changed by it. */
    void setsFraction(Start start, long answer, long[] fraction, String told, Call call) {
        CrystalCuts a = start.make();
        CrystalCuts b = start.make();
        String whole = start + ", " + told;
        c.due(whole, call.on(a), answer);
        c.due(whole + " then part(0)", a.part(0), fraction[0]);
        c.due(whole + " then part(1)", a.part(1), fraction[1]);
        alike(whole, a, b, NOTHING);
    }

    /** The call answers, and nothing at all is changed by it. */
    void changesNothing(Start start, long answer, String told, Call call) {
        CrystalCuts a = start.make();
        CrystalCuts b = start.make();
        String whole = start + ", " + told;
        c.due(whole, call.on(a), answer);
        fractionsAlike(whole, a, b);
        alike(whole, a, b, NOTHING);
    }

    /** A call told S is taken: it leaves one STATE, and by back() all is as it was. */
    void leavesState(Start start, long answer, String told, Call call) {
        CrystalCuts a = start.make();
        CrystalCuts b = start.make();
        String whole = start + ", " + told;
        c.due(whole, call.on(a), answer);
        c.due(whole + " then told(5)", a.told(5), Math.min(5, start.states + 1));
        for (int kind = 0; kind < 3; kind++) {
            c.due(whole + " then told(" + kind + ")", a.told(kind), b.told(kind));
        }
        fractionsAlike(whole, a, b);
        c.due(whole + " then back()", a.back(), Math.min(5, start.states + 1) - 1);
        if (start.states < 5) {
            alike(whole + " and back()", a, b, NOTHING);
        } else {
            planesAlike(whole + " and back()", a, b);
        }
    }

    void fractionsAlike(String told, CrystalCuts a, CrystalCuts b) {
        c.due(told + " then part(0)", a.part(0), b.part(0));
        c.due(told + " then part(1)", a.part(1), b.part(1));
    }

    /** Everything that can be seen of both but THE FRACTION, with some 250 calls each. */
    void alike(String told, CrystalCuts a, CrystalCuts b, int kind) {
        for (int what = 0; what <= 5; what++) {
            c.due(told + " then told(" + what + ")", a.told(what), b.told(what) + (what == kind ? 1 : 0));
        }
        digestsAlike(told, a, b, kind);
        for (int what = 0; what <= 6; what++) {
            c.due(told + " then all(" + what + ")", a.all(what), b.all(what));
        }
        c.due(told + " then symmetry()", a.symmetry(), b.symmetry());
        int planes = b.told(4);
        for (int p = 0; p < planes; p++) {
            for (int what = 3; what <= 6; what++) {
                c.due(told + " then of(" + p + ", " + what + ")", a.of(p, what), b.of(p, what));
            }
        }
        int corners = b.all(3);
        for (int j = 0; j < corners; j++) {
            c.due(told + " then meets(" + j + ", 1)", a.meets(j, 1), b.meets(j, 1));
        }
        statesAlike(told, a, b, kind);
        // THE TEXT is seen by reading it alone.
        c.due(told + " then reads()", a.reads(), b.reads());
        digestsAlike(told + " then reads()", a, b, kind);
    }

    private void statesAlike(String told, CrystalCuts a, CrystalCuts b, int kind) {
        for (int i = 0; i <= 5; i++) {
            c.due(told + " then back() " + i, a.back(), b.back());
            digestsAlike(told + " then back() " + i, a, b, kind);
        }
    }

    private void planesAlike(String told, CrystalCuts a, CrystalCuts b) {
        int planes = b.told(4);
        c.due(told + ", PLANES", a.told(4), planes);
        for (int p = 0; p < planes; p++) {
            for (int what = 0; what <= 3; what++) {
                c.due(told + " then of(" + p + ", " + what + ")", a.of(p, what), b.of(p, what));
            }
        }
    }

    /** Each value of a digest weighs as many times 31 as values come behind it. */
    private void digestsAlike(String told, CrystalCuts a, CrystalCuts b, int kind) {
        int behindFraction = 6 * b.all(3);
        long more = (a.part(0) - b.part(0)) * power31(behindFraction + 1) + (a.part(1) - b.part(1)) * power31(behindFraction);
        if (kind != NOTHING) {
            more += power31(5 - kind + 5 * b.told(4) + 3 + 2 + behindFraction);
        }
        c.due(told + " then digest()", a.digest(), b.digest() + more);
    }

    private static long power31(int times) {
        long whole = 1;
        for (int i = 0; i < times; i++) {
            whole *= 31;
        }
        return whole;
    }
}
