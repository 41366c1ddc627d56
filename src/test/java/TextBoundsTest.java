import java.util.ArrayList;
import java.util.List;

/** THE TEXT and promises 20 to 25, sentence by sentence: each byte at each place, the full and the empty text, the oldest state. */
public final class TextBoundsTest {
    private static final Checks C = new Checks("TextBoundsTest");
    private static final SideBySide S = new SideBySide(C);
    private static final String FIGURES = "0123456789";

    public static void main(String[] args) {
        C.runAll(TextBoundsTest.class);
        C.sawPromises(20, 25);
        C.end();
    }

    private static String shown(String text) {
        StringBuilder s = new StringBuilder("'");
        for (char ch : text.toCharArray()) {
            s.append(ch < 32 || ch > 126 ? "<" + (int) ch + ">" : "" + ch);
        }
        return s.append("'").toString();
    }

    private static int readsOf(String text) {
        CrystalCuts x = new CrystalCuts();
        Start.write(x, text);
        return x.reads();
    }

    /** A text on a new object that is at fault at a place: nothing is done, and nothing counts. */
    private static void fault(String text, int place) {
        CrystalCuts a = new CrystalCuts();
        CrystalCuts b = new CrystalCuts();
        Start.write(a, text);
        Start.write(b, text);
        C.due("reads of " + shown(text), a.reads(), -10 - place);
        S.fractionsAlike(shown(text), a, b);
        S.alike(shown(text), a, b, -1);
    }

    /** A text on a new object that is read: rows of h, k, l, OFF. */
    private static void read(String text, int[]... rows) {
        CrystalCuts x = new CrystalCuts();
        Start.write(x, text);
        C.due("reads of " + shown(text), x.reads(), rows.length);
        C.due("PLANES of " + shown(text), x.told(4), 6 + rows.length);
        for (int i = 0; i < rows.length; i++) {
            for (int what = 0; what <= 3; what++) {
                C.due(shown(text) + ", of(" + (6 + i) + ", " + what + ")", x.of(6 + i, what), rows[i][what]);
            }
        }
        int[] told = {0, 0, 0, text.length(), 6 + rows.length, 1};
        for (int what = 0; what <= 5; what++) {
            C.due(shown(text) + ", told(" + what + ")", x.told(what), told[what]);
        }
    }

    private static int[] row(int... v) {
        return v;
    }

    // ---- THE TEXT

    /**
     * Each byte behind a beginning: one that may stand there makes a text that ends too early, any other is the
     * fault. "taken" are those that end a PLANE or come behind one, "atOff" those that make OFF be not as told,
     * and a : is left out, as it changes what comes ahead of it.
     */
    private static void eachByte(String beginning, String may, String taken, String atOff, int off) {
        for (int v = 0; v < 128; v++) {
            char ch = (char) v;
            String text = beginning + ch;
            int want = -10 - beginning.length();
            if (may.indexOf(ch) >= 0) {
                want--;
            }
            if (atOff.indexOf(ch) >= 0) {
                want = -10 - off;
            }
            if (taken.indexOf(ch) >= 0) {
                want = 1;
            }
            if (ch != ':') {
                C.due("reads of " + shown(text), readsOf(text), want);
            }
        }
    }

    private static String allBut(String bytes) {
        StringBuilder s = new StringBuilder();
        for (char ch = 0; ch < 128; ch++) {
            if (bytes.indexOf(ch) < 0) {
                s.append(ch);
            }
        }
        return s.toString();
    }

    private static void t01EachFigure() {
        C.terms("then h k l, each a figure 0 .. 3, perhaps with - ahead");
        for (String ahead : new String[] {"", " ", "1", "1 ", "-1", "11", "0-3 "}) {
            eachByte(ahead, " -0123", "", "", 0);
            eachByte(ahead + "-", " 0123", "", "", 0);
            eachByte(ahead + "- ", " 0123", "", "", 0);
        }
        for (int h = -3; h <= 3; h++) {
            for (int k = -3; k <= 3; k++) {
                for (int l = -3; l <= 3; l++) {
                    if (h != 0 || k != 0 || l != 0) {
                        read("" + h + k + l + "/9;", row(h, k, l, 9));
                    }
                }
            }
        }
        read("-01-0/9;", row(0, 1, 0, 9));
        fault("4", 0);
        fault("-4", 1);
        fault("--1", 1);
        fault("+1", 0);
    }

    private static void t02Slash() {
        C.terms("then / and OFF (1 or 2 figures)");
        for (String ahead : new String[] {"111", "-1-1-1", "1 1 1 ", "003"}) {
            eachByte(ahead, " /", "", "", 0);
        }
        fault("1111/9;", 3);
        fault("11/9;", 2);
        fault("1/9;", 1);
        fault("/9;", 0);
    }

    private static void t03AllNought() {
        C.terms("(h, k, l all 0: the /");
        fault("000/9;", 3);
        fault("-0-0-0/9;", 6);
        fault(" 0 0 0  /9;", 8);
        fault("0:000/9;", 5);
        fault("111/9;000/9;", 9);
        fault("000", 3);
        fault("000 ", 4);
        fault("000/", 3);
        fault("000;", 3);
        fault("0001/9;", 3);
        fault("000/99;", 3);
        read("001/9;", row(0, 0, 1, 9));
        read("00-1/9;", row(0, 0, -1, 9));
    }

    private static void t04OffFirstByte() {
        C.terms("OFF not as told: its first byte");
        eachByte("111/", " 123456789", "", "0", 4);
        eachByte("111/ ", " 123456789", "", "0", 5);
        eachByte("111/0", "123456789", "", allBut("123456789"), 4);
        eachByte("111/ 0", "123456789", "", allBut("123456789"), 5);
        for (int off = 0; off <= 99; off++) {
            String two = off < 10 ? "0" + off : "" + off;
            if (off >= 1 && off <= 60) {
                read("111/" + two + ";", row(1, 1, 1, off));
                read("111/" + off + ";", row(1, 1, 1, off));
                read("1 11/  " + off + " ;", row(1, 1, 1, off));
            } else {
                fault("111/" + two + ";", 4);
                fault("111/" + off + ";", 4);
                fault("1 11/  " + off + " ;", 7);
            }
            fault("111/0" + two + ";", 4);
            fault("111/" + two + "0;", 4);
        }
        fault("111/;", 4);
        fault("111/ ;", 5);
        fault("111/-5;", 4);
        fault("111/+5;", 4);
        fault("111/001;", 4);
        fault("111/4294967301;", 4);
        fault("111/18446744073709551621;", 4);
        fault("111/61", 4);
        fault("111/100", 4);
    }

    private static void t05EndOfPlane() {
        C.terms("each ended by ;");
        eachByte("111/5", " " + FIGURES, ";", "", 4);
        eachByte("111/6", " 0", ";", "123456789", 4);
        eachByte("111/60", " ", ";", FIGURES, 4);
        eachByte("111/1", " " + FIGURES, ";", "", 4);
        eachByte("111/05", " ", ";", FIGURES, 4);
        eachByte("111/5 ", " ", ";", "", 4);
        eachByte("111/60  ", " ", ";", "", 4);
    }

    private static void t06BehindPlane() {
        C.terms("tells PLANES, each ended by ;");
        eachByte("111/5;", "-0123", " ", "", 0);
        eachByte("111/5; ", "-0123", " ", "", 0);
        fault(";", 0);
        fault("111/9;;", 6);
        fault("111/9; ;", 7);
        fault("111/9;:", 6);
        read("111/9;1-11/10;", row(1, 1, 1, 9), row(1, -1, 1, 10));
        read("111/9;111/9;", row(1, 1, 1, 9), row(1, 1, 1, 9));
    }

    private static void t07Blanks() {
        C.terms("Blanks (32) may stand anywhere but in OFF.");
        String text = "01:1-20/33;-111/9;";
        int[][] due = {{-1, -2, 0, 33}, {-1, 2, 0, 33}, {1, -2, 0, 33}, {1, 2, 0, 33}, {-1, 1, 1, 9}};
        for (int at = 0; at <= text.length(); at++) {
            for (String blanks : new String[] {" ", "   "}) {
                String with = text.substring(0, at) + blanks + text.substring(at);
                if (at == 9) {
                    fault(with, at + blanks.length());
                } else {
                    read(with, due);
                }
            }
        }
        read("  0  1 : 1  - 2 0 /  33  ;  -  1 1 1  / 9 ;  ", due);
        for (int v : new int[] {0, 9, 10, 13, 31, 33, 95, 127}) {
            for (int at = 0; at <= text.length(); at++) {
                fault(text.substring(0, at) + (char) v + text.substring(at), at);
            }
        }
        fault("111/3 0;", 6);
        fault("111/0 5;", 4);
    }

    private static void t08Turns() {
        C.terms("figures of TURNS (0 .. 5, one or more) and : ahead");
        for (int v = 0; v < 128; v++) {
            char ch = (char) v;
            boolean isTurn = ch >= '0' && ch <= '5';
            if (ch != ';') {
                fault(ch + ":222", isTurn ? 5 : ch == ' ' ? 1 : 0);
                fault("0" + ch + ":222", isTurn || ch == ' ' ? 6 : ch == ':' ? 2 : 1);
            }
        }
        fault(":", 0);
        fault(" :", 1);
        fault(":111/9;", 0);
        fault("0::111/9;", 2);
        fault("0:1:11/9;", 3);
        fault("0:4", 2);
        fault("0:;", 2);
        fault("0;:111/9;", 1);
        fault("6:111/9;", 0);
        fault("-0:111/9;", 0);
        fault("0-:111/9;", 1);
        // A : ahead of the next ; or of the end, wherever it is, makes the figures those of TURNS.
        fault("111/9:;", 3);
        fault("111/9:", 3);
        fault("-11:1/9", 0);
        fault("44", 0);
        fault("44:", 3);
        fault("44;:", 0);
    }

    private static void t09TurnsTold() {
        C.terms("the whole FAMILY comes, in order");
        for (int set = 1; set <= 63; set++) {
            StringBuilder text = new StringBuilder();
            for (int turn = 5; turn >= 0; turn--) {
                if ((set >> turn & 1) == 1) {
                    text.append(turn);
                }
            }
            CrystalCuts x = new CrystalCuts();
            CrystalCuts y = new CrystalCuts();
            Start.write(x, text + ":12-2/31;");
            C.due("reads of " + text, x.reads(), y.family(set, 1, 2, -2, 31));
            for (int p = 6; p < y.told(4); p++) {
                for (int what = 0; what <= 3; what++) {
                    C.due(text + ", of(" + p + ", " + what + ")", x.of(p, what), y.of(p, what));
                }
            }
        }
        read("0:111/9;", row(-1, -1, -1, 9), row(1, 1, 1, 9));
        read("00 0:111/9;", row(-1, -1, -1, 9), row(1, 1, 1, 9));
        read("1:0-10/9;", row(0, -1, 0, 9));
        // The TURNS of one PLANE are not those of the next.
        read("0:111/9;100/8;", row(-1, -1, -1, 9), row(1, 1, 1, 9), row(1, 0, 0, 8));
        read("100/8;0:111/9;", row(1, 0, 0, 8), row(-1, -1, -1, 9), row(1, 1, 1, 9));
    }

    private static void t10EndsTooEarly() {
        C.terms("the TEXT's length, if it ends too early (an empty one, too)");
        fault("", 0);
        fault(" ", 1);
        fault("     ", 5);
        String text = "012 : -1 2 0 / 33 ; 1 1 1/9;";
        for (int length = 0; length < text.length(); length++) {
            String part = text.substring(0, length);
            String bare = part.trim();
            if (bare.endsWith(";")) {
                C.holds("read: " + shown(part), readsOf(part) > 0);
            } else {
                fault(part, length);
            }
        }
        C.holds("read whole", readsOf(text) > 0);
    }

    private static String times(String part, int count) {
        StringBuilder s = new StringBuilder();
        for (int i = 0; i < count; i++) {
            s.append(part);
        }
        return s.toString();
    }

    private static void t11MostBytes() {
        C.terms("THE TEXT (120 bytes at most)");
        C.due("20 planes of 6 bytes", readsOf(times("111/9;", 20)), 20);
        C.due("17 planes of 7 bytes, a blank", readsOf(times("111/10;", 17) + " "), 17);
        C.due("119 blanks ahead of a wrong byte", readsOf(times(" ", 119) + ";"), -10 - 119);
        C.due("114 blanks ahead of a plane", readsOf(times(" ", 114) + "111/9;"), 1);
        C.due("120 bytes without the ;", readsOf(times(" ", 115) + "111/9"), -10 - 120);
        C.due("120 blanks", readsOf(times(" ", 120)), -10 - 120);
        C.due("a byte more is refused, and not read", readsOf(times(" ", 115) + "111/9;"), -10 - 120);
        C.due("119 figures of TURNS", readsOf(times("012345", 20).substring(0, 119) + ":"), -10 - 120);
        C.due("119 figures", readsOf("11/" + times("1", 117)), -10 - 2);
        C.due("116 figures of OFF", readsOf("111/" + times("1", 116)), -10 - 4);
    }

    private static void t12TooManyPlanes() {
        C.terms("PLANES more than 32 by then: the ;");
        fault("012345:123/9;", 12);
        fault("012345:123/9 ;", 13);
        fault("012345:123/9", 12);
        fault("111/9;012345:123/9;", 18);
        fault("012345:123/9;x", 12);
        fault("012345:112/9;100/9;010/9;001/9;", 30);
        C.due("24 and 2", readsOf("012345:112/9;100/9;010/9;"), 26);
        for (int ahead = 12; ahead <= 32; ahead++) {
            CrystalCuts x = new CrystalCuts();
            for (int p = 6; p < ahead; p++) {
                x.plane(1, 2, 3, p);
            }
            Start.write(x, times("111/9;", 20));
            C.due(ahead + " and 20", x.reads(), ahead == 12 ? 20 : -10 - (6 * (32 - ahead) + 5));
            C.due(ahead + " and 20, told(4)", x.told(4), ahead == 12 ? 32 : ahead);
            C.due(ahead + " and 20, told(2)", x.told(2), 0);
        }
    }

    private static void t13NothingIsDone() {
        C.terms("If there is one, nothing is done.");
        for (Start start : Start.values()) {
            for (String text : new String[] {"", " ", "111/9;111/9", "111/9;0:112/9;:", "012345:123/9;", "111/9;000/1;", "111/9;111/61;"}) {
                CrystalCuts a = start.make();
                CrystalCuts b = start.make();
                a.clear();
                b.clear();
                Start.write(a, text);
                Start.write(b, text);
                C.holds(start + ", " + shown(text), a.reads() <= -10);
                S.fractionsAlike(start + ", " + shown(text), a, b);
                S.alike(start + ", " + shown(text), a, b, -1);
            }
        }
    }

    private static void t14FaultsDoNotCount() {
        C.terms("By a FAULT nothing counts.");
        CrystalCuts x = new CrystalCuts();
        Start.write(x, "012345:123/9;");
        for (int i = 0; i < 10; i++) {
            C.due("reads", x.reads(), -22);
        }
        for (int what = 0; what <= 5; what++) {
            C.due("told(" + what + ")", x.told(what), new int[] {0, 0, 0, 13, 6, 0}[what]);
        }
    }

    // ---- 20: type

    private static void p20HowMany() {
        C.promise(20, "A byte (0 .. 127) comes behind THE TEXT: how many it has.");
        for (int v = 0; v < 128; v++) {
            CrystalCuts x = new CrystalCuts();
            C.due("type(" + v + ")", x.type(v), 1);
            C.due("type(" + v + ") again", x.type(v), 2);
            C.due("told(3)", x.told(3), 2);
            C.due("told(5)", x.told(5), 0);
        }
        CrystalCuts y = new CrystalCuts();
        for (int i = 1; i <= 120; i++) {
            C.due("type", y.type(i), i);
        }
        C.due("told(3)", y.told(3), 120);
        C.due("told(0) and told(2)", y.told(0) + y.told(2), 0);
    }

    private static void p20Bad() {
        C.promise(20, "BAD");
        for (Start start : Start.values()) {
            for (int v : Ints.outside(0, 127)) {
                S.refused(start, SideBySide.BADS, -2, "type(" + v + ")", x -> x.type(v));
            }
        }
    }

    private static void p20Full() {
        C.promise(20, "FULL: 120 bytes.");
        for (int v : new int[] {0, ' ', '1', ';', 127}) {
            S.refused(Start.FULL, SideBySide.FULLS, -4, "type(" + v + ")", x -> x.type(v));
        }
        CrystalCuts x = new CrystalCuts();
        Start.write(x, times(" ", 119));
        C.due("the last byte", x.type(';'), 120);
        C.due("one more", x.type(';'), -4);
        C.due("told(2)", x.told(2), 1);
        C.due("clear()", x.clear(), 120);
        C.due("behind clear()", x.type(';'), 1);
    }

    // ---- 21: clear

    private static void p21HowManyItHad() {
        C.promise(21, "THE TEXT is empty: how many it had.");
        for (Start start : Start.values()) {
            CrystalCuts a = start.make();
            CrystalCuts b = start.make();
            C.due(start + ", clear()", a.clear(), start.bytes);
            C.due(start + ", told(3)", a.told(3), 0);
            C.due(start + ", clear() again", a.clear(), 0);
            C.due(start + ", reads()", a.reads(), -10);
            // With the same text typed again all is as it was.
            Start.write(a, start == Start.USED ? Start.USED_TEXT : start == Start.FULL ? Start.FULL_TEXT + times(" ", 113) : "");
            S.fractionsAlike(start + ", clear()", a, b);
            S.alike(start + ", clear()", a, b, -1);
        }
    }

    // ---- 22: reads

    private static void p22HowMany() {
        C.promise(22, "PLANES come as THE TEXT tells: how many.");
        CrystalCuts x = Start.USED.make();
        C.due("reads()", x.reads(), 4);
        int[][] due = {{-3, 1, 2, 17}, {1, 2, -3, 17}, {2, -3, 1, 17}, {0, -2, 1, 8}};
        for (int i = 0; i < 4; i++) {
            for (int what = 0; what <= 3; what++) {
                C.due("of(" + (10 + i) + ", " + what + ")", x.of(10 + i, what), due[i][what]);
            }
        }
        C.due("THE TEXT stays", x.told(3), Start.USED.bytes);
        C.due("reads() again", x.reads(), 4);
        C.due("told(4)", x.told(4), 18);
    }

    private static void p22OneState() {
        C.promise(22, "S.");
        S.leavesState(Start.USED, 4, "reads()", x -> x.reads());
    }

    private static void p22LessTheFault() {
        C.promise(22, "-10 less the FAULT.");
        S.changesNothing(Start.NEW, -10, "reads() of none", x -> x.reads());
        S.changesNothing(Start.FULL, -16, "reads() with 32 PLANES", x -> x.reads());
        C.due("at the first byte", readsOf("x"), -10);
        C.due("at the second byte", readsOf("1x"), -11);
        C.due("at the last of 120", readsOf(times(" ", 119) + "x"), -129);
        C.due("at the end of 120", readsOf(times(" ", 120)), -130);
    }

    // ---- 23: back

    private static void p23HowManyYet() {
        C.promise(23, "A STATE back: how many can be yet.");
        CrystalCuts x = Start.FULL.make();
        int[] planes = {26, 18, 6, 6, 6};
        int[][] offs = {{10, 10}, {10, 10}, {10, 10}, {10, 20}, {20, 20}};
        for (int i = 0; i < 5; i++) {
            C.due("back() " + i, x.back(), 4 - i);
            C.due("told(5) " + i, x.told(5), 4 - i);
            C.due("told(4) " + i, x.told(4), planes[i]);
            C.due("of(4, 3) " + i, x.of(4, 3), offs[i][0]);
            C.due("of(5, 3) " + i, x.of(5, 3), offs[i][1]);
        }
        C.due("of(3, 3), older ones lost", x.of(3, 3), 10);
        C.due("back() of none", x.back(), -3);
    }

    private static void p23None() {
        C.promise(23, "NO: none.");
        S.refused(Start.NEW, SideBySide.NOS, -3, "back()", x -> x.back());
        CrystalCuts x = new CrystalCuts();
        x.off(0, 9);
        C.due("back()", x.back(), 0);
        C.due("back()", x.back(), -3);
        C.due("back()", x.back(), -3);
        C.due("told(1)", x.told(1), 2);
        C.due("of(0, 3)", x.of(0, 3), 20);
    }

    private static void p23PlanesAlone() {
        C.terms("STATES: each call told S leaves one to go back to (PLANES alone)");
        CrystalCuts x = Start.USED.make();
        x.plane(1, 0, 0, 7);
        x.type(' ');
        x.corner(0, 2);
        x.told(-1);
        C.due("back()", x.back(), 4);
        int[] told = {4, 2, 1, 19, 10, 4};
        for (int what = 0; what <= 5; what++) {
            C.due("told(" + what + ")", x.told(what), told[what]);
        }
        C.due("part(0)", x.part(0), 21);
        C.due("part(1)", x.part(1), 2);
        C.due("all(3)", x.all(3), 12);
        C.due("spare(1)", x.spare(1), 12);
    }

    /** Calls that are not told S leave none; refused ones and faults neither. */
    private static void t15NoState() {
        C.terms("each call told S leaves one");
        CrystalCuts x = Start.USED.make();
        x.of(0, 4);
        x.member(63, 1, 2, 3, 4);
        x.all(3);
        x.corner(0, 0);
        x.meets(0, 0);
        x.part(0);
        x.edge(0, 2, 0);
        x.reach(1, 0, 0);
        x.stays(0);
        x.symmetry();
        x.hides(1, 0, 0, 0);
        x.spare(0);
        x.type('x');
        x.reads();
        x.clear();
        x.reads();
        x.told(5);
        x.digest();
        x.plane(0, 0, 0, 1);
        x.family(64, 1, 0, 0, 1);
        x.family(63, 1, 2, 3, 1);
        x.off(10, 1);
        x.drop(5);
        x.draw(-1, 1);
        C.due("told(5)", x.told(5), 4);
        C.due("back()", x.back(), 3);
        C.due("told(4)", x.told(4), 9);
    }

    private static void t16FiveAtMost() {
        C.terms("5 at most, older ones lost");
        CrystalCuts x = new CrystalCuts();
        List<Integer> model = new ArrayList<>();
        int off = 20;
        // Forth and back in steps that differ, so that the oldest place comes round often.
        int[] steps = {1, -1, 4, -2, 3, -3, 5, -1, 6, -5, 7, -6, 2, -1, 9, -4, 5, -5, 1, -2, 12, -6};
        for (int step : steps) {
            for (int i = 0; i < Math.abs(step); i++) {
                if (step > 0) {
                    int next = 1 + (off * 7 + 3) % 60;
                    C.due("off(0, " + next + ")", x.off(0, next), off);
                    model.add(off);
                    off = next;
                    if (model.size() > 5) {
                        model.remove(0);
                    }
                } else if (model.isEmpty()) {
                    C.due("back() of none", x.back(), -3);
                } else {
                    off = model.remove(model.size() - 1);
                    C.due("back()", x.back(), model.size());
                }
                C.due("of(0, 3)", x.of(0, 3), off);
                C.due("told(5)", x.told(5), model.size());
            }
        }
    }

    private static void t17EachLosesTheOldest() {
        C.terms("older ones lost");
        List<SideBySide.Call> calls = List.of(x -> x.plane(1, 1, 1, 30), x -> x.family(1, 1, 1, 1, 30), x -> x.off(1, 30),
            x -> x.anew(), x -> x.draw(1, 1), x -> x.reads());
        for (int i = 0; i < calls.size(); i++) {
            CrystalCuts x = new CrystalCuts();
            Start.write(x, "111/30;");
            for (int v = 1; v <= 5; v++) {
                x.off(0, v);
            }
            calls.get(i).on(x);
            C.due("told(5) of " + i, x.told(5), 5);
            for (int left = 4; left >= 0; left--) {
                C.due("back() of " + i, x.back(), left);
                C.due("of(0, 3) of " + i, x.of(0, 3), left + 1);
            }
            C.due("back() of " + i, x.back(), -3);
            C.due("told(4) of " + i, x.told(4), 6);
        }
    }

    // ---- 24: told

    private static void p24HowOften() {
        C.promise(24, "How often refused: BAD (0), NO (1), FULL (2); bytes of THE TEXT (3), PLANES (4), STATES (5).");
        int[][] due = {{0, 0, 0, 0, 6, 0}, {3, 2, 1, 18, 10, 4}, {1, 3, 2, 120, 32, 5}};
        for (Start start : Start.values()) {
            for (int what = 0; what <= 5; what++) {
                int w = what;
                S.changesNothing(start, due[start.ordinal()][what], "told(" + what + ")", x -> x.told(w));
            }
        }
    }

    private static void p24Bad() {
        C.promise(24, "BAD.");
        for (Start start : Start.values()) {
            for (int v : Ints.outside(0, 5)) {
                S.refused(start, SideBySide.BADS, -2, "told(" + v + ")", x -> x.told(v));
            }
        }
    }

    private static void p24Many() {
        C.promise(24, "How often refused");
        CrystalCuts x = Start.FULL.make();
        for (int i = 0; i < 100; i++) {
            x.plane(4, 0, 0, 1);
            x.plane(1, 0, 0, 1);
            x.corner(60, 0);
        }
        C.due("told(0)", x.told(0), 101);
        C.due("told(1)", x.told(1), 103);
        C.due("told(2)", x.told(2), 102);
    }

    // ---- 25: digest

    private static long mix(long sum, long... values) {
        long whole = sum;
        for (long v : values) {
            whole = 31 * whole + v;
        }
        return whole;
    }

    private static void p25Order() {
        C.promise(25, "h = 2179; then h = 31 h + v for each v: told(0) to told(5); of PLANES of(0) to of(4); all(1), all(3), all(4); THE FRACTION; of CORNERS x, y, z as fractions (above, below).");
        for (Start start : Start.values()) {
            CrystalCuts x = start.make();
            long sum = 2179;
            for (int what = 0; what <= 5; what++) {
                sum = mix(sum, x.told(what));
            }
            for (int p = 0; p < start.planes; p++) {
                for (int what = 0; what <= 4; what++) {
                    sum = mix(sum, x.of(p, what));
                }
            }
            sum = mix(sum, x.all(1), x.all(3), x.all(4), x.part(0), x.part(1));
            CrystalCuts y = start.make();
            for (int j = 0; j < start.corners; j++) {
                if (j % 30 == 29) {
                    // What an object answers behind its 512th call is free.
                    y = start.make();
                }
                for (int a = 0; a < 3; a++) {
                    y.corner(j, a);
                    sum = mix(sum, y.part(0), y.part(1));
                }
            }
            long whole = sum;
            S.changesNothing(start, whole, "digest()", z -> z.digest());
        }
    }

    private static void p25Itself() {
        C.promise(25, "h = 2179");
        CrystalCuts x = new CrystalCuts();
        long first = x.digest();
        C.due("digest() again", x.digest(), first);
        x.told(6);
        C.holds("a refusal is seen", x.digest() != first);
        CrystalCuts y = new CrystalCuts();
        y.type(0);
        C.holds("a byte is seen", y.digest() != first);
        y.clear();
        C.due("and gone", y.digest(), first);
        y.off(0, 20);
        C.holds("a STATE is seen", y.digest() != first);
        y.back();
        C.due("and gone", y.digest(), first);
        y.corner(0, 0);
        C.holds("THE FRACTION is seen", y.digest() != first);
    }
}
