/** Objects in states that differ, each made anew by the same calls. */
enum Start {
    /** Nothing was called yet. */
    NEW(6, 8, 0, 0),
    /** Some of everything: planes that SHOW, a HIDDEN one, a twin, STATES, a text, a fraction, refusals of each kind. */
    USED(10, 12, 18, 4),
    /** As much as there can be: 32 planes that all SHOW, 60 corners, 5 STATES, 120 bytes. */
    FULL(32, 60, 120, 5);

    static final String USED_TEXT = "4:12-3/17; 0-21/8;";
    static final String FULL_TEXT = "111/17;";

    final int planes;
    final int corners;
    final int bytes;
    final int states;

    Start(int planes, int corners, int bytes, int states) {
        this.planes = planes;
        this.corners = corners;
        this.bytes = bytes;
        this.states = states;
    }

    CrystalCuts make() {
        CrystalCuts x = new CrystalCuts();
        if (this == USED) {
            use(x);
        }
        if (this == FULL) {
            fill(x);
        }
        return x;
    }

    private static void use(CrystalCuts x) {
        x.plane(1, 1, 1, 50);
        x.plane(1, 1, 0, 40);
        x.plane(-2, -2, -2, 59);
        x.plane(1, 1, 1, 50);
        write(x, USED_TEXT);
        x.reach(-1, -1, -1);
        refuse(x, 3, 2, 1);
    }

    /** A truncated cuboctahedron, six of whose 48 corners are cut off. */
    private static void fill(CrystalCuts x) {
        for (int p = 0; p < 6; p++) {
            x.off(p, 10);
        }
        x.family(63, 1, 1, 0, 16);
        x.family(63, 1, 1, 1, 18);
        x.family(48, 3, 2, 1, 43);
        write(x, FULL_TEXT);
        for (int i = FULL_TEXT.length(); i < 120; i++) {
            x.type(' ');
        }
        x.corner(7, 1);
        refuse(x, 1, 3, 2);
    }

    private static void refuse(CrystalCuts x, int bads, int nos, int fulls) {
        for (int i = 0; i < bads; i++) {
            x.told(6);
        }
        for (int i = 0; i < nos; i++) {
            x.corner(60, 0);
        }
        for (int i = 0; i < fulls; i++) {
            x.family(63, 1, 2, 3, 5);
        }
    }

    static void write(CrystalCuts x, String text) {
        for (int i = 0; i < text.length(); i++) {
            x.type(text.charAt(i));
        }
    }
}
