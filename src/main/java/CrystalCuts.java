import java.util.Arrays;

/** Crystals cut out of a box by planes, exactly: see README.md for how it is used. */
public final class CrystalCuts {
    public static final int NONE = -1, BAD = -2, NO = -3, FULL = -4;

    private static final int BOX_PLANES = 6;
    private static final int BOX_OFF = 20;
    private static final int MOST_PLANES = 32;
    private static final int MOST_OFF = 60;
    private static final int MOST_DRAWN = MOST_PLANES - BOX_PLANES;
    private static final int MOST_SEED = 999999;
    private static final int MOST_STATES = 5;
    private static final int MOST_BYTES = 120;
    private static final int SIGN_REACH = 3;

    // A convex body with F faces has 2 F - 4 corners at most: 60 for 32 planes.
    private static final int MOST_CORNERS = 2 * MOST_PLANES - 4;

    private static final int TURNS = 6;
    private static final int ALL_TURNS = 63;
    // The turns and mirrors together make 48 at most out of one sign.
    private static final int MOST_SIGNS = 48;
    // A sign's code is 100 (h + 3) + 10 (k + 3) + l + 3, so 666 is the greatest.
    private static final int SIGN_CODES = 667;

    private static final int BAD_OF = -100;
    private static final int BAD_EDGE = -100;
    private static final int BAD_MEMBER = -10;
    private static final int NO_SUCH_MEMBER = -5;
    private static final long BAD_PART = -1000000L;
    private static final int FAULT_BASE = -10;

    // Three entries a turn: which coordinate comes to each place, and with which sign.
    private static final int[] TURN_FROM = {0, 1, 2, 0, 1, 2, 0, 1, 2, 1, 0, 2, 2, 0, 1, 1, 0, 2};
    private static final int[] TURN_SIGN = {-1, -1, -1, -1, 1, 1, -1, -1, 1, -1, 1, 1, 1, 1, 1, 1, 1, 1};

    private final Planes planes = new Planes();
    private final Planes coming = new Planes();
    private final States states = new States();
    private final Solid solid = new Solid();
    private final Solid trial = new Solid();
    private final Family signs = new Family();
    private final Reader text = new Reader();

    private boolean solidKnown;
    private boolean spareKnown;
    private int sparePlane;
    private int spareCorners;

    private int above;
    private int below;
    private int bads;
    private int nos;
    private int fulls;

    public CrystalCuts() {
        planes.becomeBox();
        below = 1;
    }

    // ---- planes

    public int plane(int h, int k, int l, int off) {
        if (!isSign(h, k, l) || !isOff(off)) {
            return refuseBad(BAD);
        }
        if (planes.count >= MOST_PLANES) {
            return refuseFull();
        }
        leaveState();
        planes.put(h, k, l, off);
        return planes.count - 1;
    }

    public int family(int turns, int h, int k, int l, int off) {
        if (!isTurnSet(turns) || !isSign(h, k, l) || !isOff(off)) {
            return refuseBad(BAD);
        }
        signs.gather(turns, h, k, l);
        if (planes.count + signs.count > MOST_PLANES) {
            return refuseFull();
        }
        leaveState();
        planes.putFamily(signs, off);
        return signs.count;
    }

    public int off(int p, int v) {
        if (!isPlane(p) || !isOff(v)) {
            return refuseBad(BAD);
        }
        leaveState();
        int was = planes.off[p];
        planes.off[p] = v;
        return was;
    }

    public int drop(int p) {
        if (!isPlane(p) || p < BOX_PLANES) {
            return refuseBad(BAD);
        }
        leaveState();
        planes.takeOut(p);
        return planes.count;
    }

    public int anew() {
        int were = planes.count;
        leaveState();
        planes.becomeBox();
        return were;
    }

    public int draw(int seed, int n) {
        if (seed < 0 || seed > MOST_SEED || n < 1 || n > MOST_DRAWN) {
            return refuseBad(BAD);
        }
        leaveState();
        planes.count = BOX_PLANES;
        long x = seed;
        for (int i = 0; i < n; i++) {
            x = (x * 1103515245L + 12345L) % 2147483648L;
            putDrawn(x);
        }
        return crystal().corners;
    }

    public int of(int p, int what) {
        if (!isPlane(p) || what < 0 || what > 6) {
            return refuseBad(BAD_OF);
        }
        return ofPlane(p, what);
    }

    public int member(int turns, int h, int k, int l, int m) {
        if (!isTurnSet(turns) || !isSign(h, k, l) || m < NONE) {
            return refuseBad(BAD_MEMBER);
        }
        signs.gather(turns, h, k, l);
        if (m == NONE) {
            return signs.count;
        }
        return m < signs.count ? signs.codes[m] : NO_SUCH_MEMBER;
    }

    // ---- the crystal

    public int all(int what) {
        switch (what) {
            case 0:
                return planes.count;
            case 1:
                return crystal().showing();
            case 2:
                return planes.count - crystal().showing();
            case 3:
                return crystal().corners;
            case 4:
                return crystal().edges();
            case 5:
                return crystal().mostCornersOnPlane(planes.count);
            case 6:
                return crystal().mostPlanesOnCorner();
            default:
                return refuseBad(BAD);
        }
    }

    public int corner(int j, int a) {
        if (j < 0 || a < 0 || a > 2) {
            return refuseBad(BAD);
        }
        Solid now = crystal();
        if (j >= now.corners) {
            return refuseNo();
        }
        setFraction(now.coordinate(j, a), now.d[j]);
        return 1;
    }

    public int meets(int j, int what) {
        if (j < 0 || what < 0 || what > 1) {
            return refuseBad(BAD);
        }
        Solid now = crystal();
        if (j >= now.corners) {
            return NONE;
        }
        return what == 0 ? Integer.bitCount(now.on[j]) : now.on[j];
    }

    public long part(int what) {
        if (what < 0 || what > 1) {
            refuseBad(BAD);
            return BAD_PART;
        }
        return what == 0 ? above : below;
    }

    public int edge(int p, int q, int what) {
        if (!isPlane(p) || !isPlane(q) || p == q || what < 0 || what > 4) {
            return refuseBad(BAD_EDGE);
        }
        Solid now = crystal();
        int shared = now.cornersOnBoth(p, q);
        if (what == 4) {
            return shared;
        }
        if (shared < 2 || !now.isShown(p) || !now.isShown(q)) {
            return 0;
        }
        return what == 0 ? 1 : planes.wayBetween(p, q, what - 1);
    }

    public int reach(int h, int k, int l) {
        if (!isSign(h, k, l)) {
            return refuseBad(BAD);
        }
        Solid now = crystal();
        int j = now.farthest(h, k, l);
        int far = now.along(j, h, k, l);
        setFraction(far, now.d[j]);
        return now.cornersAt(h, k, l, j);
    }

    public int stays(int turn) {
        if (turn < 0 || turn >= TURNS) {
            return refuseBad(BAD);
        }
        return crystal().isKeptBy(turn) ? 1 : 0;
    }

    public int symmetry() {
        Solid now = crystal();
        int bits = 0;
        for (int turn = 0; turn < TURNS; turn++) {
            if (now.isKeptBy(turn)) {
                bits |= 1 << turn;
            }
        }
        return bits;
    }

    public int hides(int h, int k, int l, int what) {
        if (!isSign(h, k, l) || what < 0 || what > 1) {
            return refuseBad(BAD);
        }
        if (planes.count >= MOST_PLANES) {
            return refuseFull();
        }
        Solid now = crystal();
        int j = now.farthest(h, k, l);
        int far = now.along(j, h, k, l);
        return what == 0 ? leastBeyond(far, now.d[j]) : offsWithin(far, now.d[j]);
    }

    public int spare(int what) {
        if (what < 0 || what > 1) {
            return refuseBad(BAD);
        }
        if (planes.count <= BOX_PLANES) {
            return refuseNo();
        }
        if (!spareKnown) {
            findSpare();
        }
        return what == 0 ? sparePlane : spareCorners;
    }

    // ---- texts

    public int type(int c) {
        if (c < 0 || c > 127) {
            return refuseBad(BAD);
        }
        if (text.length >= MOST_BYTES) {
            return refuseFull();
        }
        text.bytes[text.length] = (byte) c;
        text.length++;
        return text.length;
    }

    public int clear() {
        int had = text.length;
        text.length = 0;
        return had;
    }

    public int reads() {
        coming.copyFrom(planes);
        if (!text.readAll(coming, signs)) {
            return FAULT_BASE - text.at;
        }
        int came = coming.count - planes.count;
        leaveState();
        planes.copyFrom(coming);
        return came;
    }

    public int back() {
        if (states.count <= 0) {
            return refuseNo();
        }
        states.takeBack(planes);
        forgetCrystal();
        return states.count;
    }

    public int told(int what) {
        if (what < 0 || what > 5) {
            return refuseBad(BAD);
        }
        return howMany(what);
    }

    public long digest() {
        Solid now = crystal();
        long sum = 2179L;
        for (int what = 0; what <= 5; what++) {
            sum = 31L * sum + howMany(what);
        }
        for (int p = 0; p < planes.count; p++) {
            for (int what = 0; what <= 4; what++) {
                sum = 31L * sum + ofPlane(p, what);
            }
        }
        sum = 31L * sum + now.showing();
        sum = 31L * sum + now.corners;
        sum = 31L * sum + now.edges();
        sum = 31L * sum + above;
        sum = 31L * sum + below;
        return now.addCornersTo(sum);
    }

    // ---- what a number may be

    private static boolean isSign(int h, int k, int l) {
        return isSignNumber(h) && isSignNumber(k) && isSignNumber(l) && !(h == 0 && k == 0 && l == 0);
    }

    private static boolean isSignNumber(int v) {
        return v >= -SIGN_REACH && v <= SIGN_REACH;
    }

    private static boolean isOff(int v) {
        return v >= 1 && v <= MOST_OFF;
    }

    private static boolean isTurnSet(int turns) {
        return turns >= 0 && turns <= ALL_TURNS;
    }

    private boolean isPlane(int p) {
        return p >= 0 && p < planes.count;
    }

    // ---- refusals

    private int refuseBad(int answer) {
        bads++;
        return answer;
    }

    private int refuseNo() {
        nos++;
        return NO;
    }

    private int refuseFull() {
        fulls++;
        return FULL;
    }

    // ---- helpers of the calls

    private void leaveState() {
        states.keep(planes);
        forgetCrystal();
    }

    private void forgetCrystal() {
        solidKnown = false;
        spareKnown = false;
    }

    private Solid crystal() {
        if (!solidKnown) {
            solid.cut(planes, NONE);
            solid.look(planes);
            solidKnown = true;
        }
        return solid;
    }

    private void putDrawn(long x) {
        int h = (int) (x / 65536L % 7L) - SIGN_REACH;
        int k = (int) (x / 1024L % 7L) - SIGN_REACH;
        int l = (int) (x / 32768L % 7L) - SIGN_REACH;
        if (h == 0 && k == 0 && l == 0) {
            h = 1;
        }
        planes.put(h, k, l, 10 + (int) (x / 512L % 31L));
    }

    private int ofPlane(int p, int what) {
        switch (what) {
            case 0:
                return planes.h[p];
            case 1:
                return planes.k[p];
            case 2:
                return planes.l[p];
            case 3:
                return planes.off[p];
            case 4:
                return crystal().isShown(p) ? 1 : 0;
            case 5:
                return crystal().cornersOn[p];
            default:
                return crystal().edgesOn(p);
        }
    }

    private int howMany(int what) {
        switch (what) {
            case 0:
                return bads;
            case 1:
                return nos;
            case 2:
                return fulls;
            case 3:
                return text.length;
            case 4:
                return planes.count;
            default:
                return states.count;
        }
    }

    private void setFraction(int a, int b) {
        int shared = commonDivisor(a, b);
        if (shared > 0) {
            above = a / shared;
            below = b / shared;
        }
    }

    // A plane farther off than the farthest corner touches nothing; one just there has that corner ON it.
    private static int leastBeyond(int far, int per) {
        int least = per > 0 ? far / per + 1 : MOST_OFF + 1;
        return least <= MOST_OFF ? least : NONE;
    }

    // The middle is inside the crystal, so each plane nearer than the farthest corner cuts a face of its
    // own; one just there is at best the same plane as one that shows already.
    private static int offsWithin(int far, int per) {
        return per > 0 ? Math.min(MOST_OFF, (far - 1) / per) : 0;
    }

    private void findSpare() {
        Solid now = crystal();
        sparePlane = NONE;
        spareCorners = NONE;
        for (int p = BOX_PLANES; p < planes.count; p++) {
            int left = cornersWithout(p, now);
            if (left > spareCorners) {
                spareCorners = left;
                sparePlane = p;
            }
        }
        spareKnown = true;
    }

    private int cornersWithout(int p, Solid now) {
        // A hidden plane cuts nothing off that the others leave.
        if (!now.isShown(p)) {
            return now.corners;
        }
        trial.cut(planes, p);
        return trial.corners;
    }

    private static int turned(int turn, int place, int x, int y, int z) {
        int entry = 3 * turn + place;
        if (entry < 0 || entry >= TURN_FROM.length) {
            return 0;
        }
        int from = TURN_FROM[entry];
        int v = from == 0 ? x : from == 1 ? y : z;
        return TURN_SIGN[entry] * v;
    }

    private static int commonDivisor(int a, int b) {
        int big = Math.abs(a);
        int small = Math.abs(b);
        // Each two steps halve the numbers, so 64 are more than an int can need.
        for (int step = 0; step < 64 && small != 0; step++) {
            int rest = big % small;
            big = small;
            small = rest;
        }
        return big;
    }

    /** The planes in their order, the box first. */
    private static final class Planes {
        private final int[] h = new int[MOST_PLANES];
        private final int[] k = new int[MOST_PLANES];
        private final int[] l = new int[MOST_PLANES];
        private final int[] off = new int[MOST_PLANES];
        private int count;

        private void becomeBox() {
            count = 0;
            put(1, 0, 0, BOX_OFF);
            put(-1, 0, 0, BOX_OFF);
            put(0, 1, 0, BOX_OFF);
            put(0, -1, 0, BOX_OFF);
            put(0, 0, 1, BOX_OFF);
            put(0, 0, -1, BOX_OFF);
        }

        private void put(int newH, int newK, int newL, int newOff) {
            if (count < MOST_PLANES) {
                h[count] = newH;
                k[count] = newK;
                l[count] = newL;
                off[count] = newOff;
                count++;
            }
        }

        private void putFamily(Family signs, int newOff) {
            for (int i = 0; i < signs.count; i++) {
                int code = signs.codes[i];
                put(code / 100 - SIGN_REACH, code / 10 % 10 - SIGN_REACH, code % 10 - SIGN_REACH, newOff);
            }
        }

        private void takeOut(int p) {
            for (int i = p; i + 1 < count; i++) {
                h[i] = h[i + 1];
                k[i] = k[i + 1];
                l[i] = l[i + 1];
                off[i] = off[i + 1];
            }
            count--;
        }

        private void copyFrom(Planes other) {
            if (other == null) {
                return;
            }
            count = other.count;
            System.arraycopy(other.h, 0, h, 0, count);
            System.arraycopy(other.k, 0, k, 0, count);
            System.arraycopy(other.l, 0, l, 0, count);
            System.arraycopy(other.off, 0, off, 0, count);
        }

        // OFFS are above 0, so the same points are ON both just if one is the other taken some times.
        private boolean areSame(int p, int q) {
            return h[p] * off[q] == h[q] * off[p]
                && k[p] * off[q] == k[q] * off[p]
                && l[p] * off[q] == l[q] * off[p];
        }

        private boolean hasEarlierTwin(int p) {
            for (int q = 0; q < p; q++) {
                if (areSame(q, p)) {
                    return true;
                }
            }
            return false;
        }

        private int wayBetween(int p, int q, int axis) {
            int x = k[p] * l[q] - l[p] * k[q];
            int y = l[p] * h[q] - h[p] * l[q];
            int z = h[p] * k[q] - k[p] * h[q];
            int shared = commonDivisor(commonDivisor(x, y), z);
            if (shared <= 0) {
                return 0;
            }
            int first = x != 0 ? x : y != 0 ? y : z;
            int unit = first > 0 ? shared : -shared;
            return (axis == 0 ? x : axis == 1 ? y : z) / unit;
        }
    }

    /** The last few states of the planes, in a ring. */
    private static final class States {
        private final Planes[] ring = new Planes[MOST_STATES];
        private int newest;
        private int count;

        private States() {
            for (int i = 0; i < MOST_STATES; i++) {
                ring[i] = new Planes();
            }
        }

        private void keep(Planes now) {
            newest = (newest + 1) % MOST_STATES;
            Planes slot = ring[newest];
            if (slot != null) {
                slot.copyFrom(now);
            }
            count = Math.min(MOST_STATES, count + 1);
        }

        private void takeBack(Planes now) {
            now.copyFrom(ring[newest]);
            newest = (newest + MOST_STATES - 1) % MOST_STATES;
            count--;
        }
    }

    /** The line that is ON two planes, and how much of it other planes leave. */
    private static final class Line {
        // Its points are (base + t times way) by scale, scale above 0.
        private int wayX, wayY, wayZ;
        private int baseX, baseY, baseZ;
        private int scale;
        // t from low to high, as fractions; -1 by 0 and 1 by 0 are without end.
        private int lowAbove, lowBelow, highAbove, highBelow;

        private boolean lay(Planes all, int i, int j) {
            int h = all.h[i], k = all.k[i], l = all.l[i], off = all.off[i];
            int h2 = all.h[j], k2 = all.k[j], l2 = all.l[j], off2 = all.off[j];
            wayX = k * l2 - l * k2;
            wayY = l * h2 - h * l2;
            wayZ = h * k2 - k * h2;
            scale = wayX * wayX + wayY * wayY + wayZ * wayZ;
            if (scale == 0) {
                return false;
            }
            baseX = off * (k2 * wayZ - l2 * wayY) + off2 * (wayY * l - wayZ * k);
            baseY = off * (l2 * wayX - h2 * wayZ) + off2 * (wayZ * h - wayX * l);
            baseZ = off * (h2 * wayY - k2 * wayX) + off2 * (wayX * k - wayY * h);
            lowAbove = -1;
            lowBelow = 0;
            highAbove = 1;
            highBelow = 0;
            return true;
        }

        private boolean isLeftBy(Planes all, int without) {
            for (int p = 0; p < all.count; p++) {
                if (p != without && !isLeftBehind(all, p)) {
                    return false;
                }
            }
            return true;
        }

        private boolean isLeftBehind(Planes all, int p) {
            int climb = all.h[p] * wayX + all.k[p] * wayY + all.l[p] * wayZ;
            int room = all.off[p] * scale - all.h[p] * baseX - all.k[p] * baseY - all.l[p] * baseZ;
            if (climb == 0) {
                return room >= 0;
            }
            if (climb > 0 && room * highBelow < highAbove * climb) {
                highAbove = room;
                highBelow = climb;
            }
            if (climb < 0 && lowAbove * climb > room * lowBelow) {
                lowAbove = -room;
                lowBelow = -climb;
            }
            return lowAbove * highBelow <= highAbove * lowBelow;
        }
    }

    /** What planes leave: its corners in order, and which planes they are ON. */
    private static final class Solid {
        // Corner j is (x, y, z) by d, d above 0, the four without a common divisor.
        private final int[] x = new int[MOST_CORNERS];
        private final int[] y = new int[MOST_CORNERS];
        private final int[] z = new int[MOST_CORNERS];
        private final int[] d = new int[MOST_CORNERS];
        private final int[] on = new int[MOST_CORNERS];
        private final int[] cornersOn = new int[MOST_PLANES];
        private final Line line = new Line();
        private int corners;
        private int shown;

        private void cut(Planes all, int without) {
            corners = 0;
            for (int i = 0; i < all.count; i++) {
                for (int j = i + 1; j < all.count; j++) {
                    if (i != without && j != without && line.lay(all, i, j) && line.isLeftBy(all, without)) {
                        keepPoint(line.lowAbove, line.lowBelow);
                        keepPoint(line.highAbove, line.highBelow);
                    }
                }
            }
        }

        private void keepPoint(int tAbove, int tBelow) {
            int px = line.baseX * tBelow + line.wayX * tAbove;
            int py = line.baseY * tBelow + line.wayY * tAbove;
            int pz = line.baseZ * tBelow + line.wayZ * tAbove;
            int pd = line.scale * tBelow;
            int shared = commonDivisor(commonDivisor(px, py), commonDivisor(pz, pd));
            if (pd <= 0 || shared <= 0) {
                return;
            }
            px /= shared;
            py /= shared;
            pz /= shared;
            pd /= shared;
            int place = placeOf(px, py, pz, pd);
            if (place >= corners || order(place, px, py, pz, pd) != 0) {
                putCorner(place, px, py, pz, pd);
            }
        }

        private void putCorner(int place, int px, int py, int pz, int pd) {
            if (corners >= MOST_CORNERS) {
                return;
            }
            for (int j = corners; j > place; j--) {
                x[j] = x[j - 1];
                y[j] = y[j - 1];
                z[j] = z[j - 1];
                d[j] = d[j - 1];
            }
            x[place] = px;
            y[place] = py;
            z[place] = pz;
            d[place] = pd;
            corners++;
        }

        // The first corner that is not ahead of the point.
        private int placeOf(int px, int py, int pz, int pd) {
            int from = 0;
            int to = corners;
            for (int step = 0; step < MOST_CORNERS && from < to; step++) {
                int middle = (from + to) / 2;
                if (order(middle, px, py, pz, pd) < 0) {
                    from = middle + 1;
                } else {
                    to = middle;
                }
            }
            return from;
        }

        // Below 0, 0 or above 0: corner j is ahead of the point, is it, or is behind it.
        private int order(int j, int px, int py, int pz, int pd) {
            int byX = x[j] * pd - px * d[j];
            int byY = y[j] * pd - py * d[j];
            int byZ = z[j] * pd - pz * d[j];
            return byX != 0 ? byX : byY != 0 ? byY : byZ;
        }

        private void look(Planes all) {
            Arrays.fill(on, 0);
            shown = 0;
            for (int p = 0; p < all.count; p++) {
                cornersOn[p] = markCornersOn(all, p);
                // No corner lies between two others, so three are never on one line.
                if (cornersOn[p] >= 3 && !all.hasEarlierTwin(p)) {
                    shown |= 1 << p;
                }
            }
        }

        private int markCornersOn(Planes all, int p) {
            int found = 0;
            for (int j = 0; j < corners; j++) {
                if (along(j, all.h[p], all.k[p], all.l[p]) == all.off[p] * d[j]) {
                    on[j] |= 1 << p;
                    found++;
                }
            }
            return found;
        }

        // How far corner j is along a sign, times d of it.
        private int along(int j, int h, int k, int l) {
            return h * x[j] + k * y[j] + l * z[j];
        }

        private int coordinate(int j, int axis) {
            return axis == 0 ? x[j] : axis == 1 ? y[j] : z[j];
        }

        private boolean isShown(int p) {
            return (shown >>> p & 1) == 1;
        }

        private int showing() {
            return Integer.bitCount(shown);
        }

        // Euler: corners and faces together are two more than edges.
        private int edges() {
            return corners + showing() - 2;
        }

        // A plane that shows is a polygon: as many edges as corners.
        private int edgesOn(int p) {
            return isShown(p) ? cornersOn[p] : 0;
        }

        private int mostCornersOnPlane(int planeCount) {
            int most = 0;
            for (int p = 0; p < planeCount; p++) {
                if (isShown(p)) {
                    most = Math.max(most, cornersOn[p]);
                }
            }
            return most;
        }

        private int mostPlanesOnCorner() {
            int most = 0;
            for (int j = 0; j < corners; j++) {
                most = Math.max(most, Integer.bitCount(on[j] & shown));
            }
            return most;
        }

        private int cornersOnBoth(int p, int q) {
            int both = 1 << p | 1 << q;
            int found = 0;
            for (int j = 0; j < corners; j++) {
                if ((on[j] & both) == both) {
                    found++;
                }
            }
            return found;
        }

        private int farthest(int h, int k, int l) {
            int best = 0;
            for (int j = 1; j < corners; j++) {
                if (along(j, h, k, l) * d[best] > along(best, h, k, l) * d[j]) {
                    best = j;
                }
            }
            return best;
        }

        private int cornersAt(int h, int k, int l, int like) {
            int far = along(like, h, k, l);
            int found = 0;
            for (int j = 0; j < corners; j++) {
                if (along(j, h, k, l) * d[like] == far * d[j]) {
                    found++;
                }
            }
            return found;
        }

        // The crystal stays just if each corner comes to a corner.
        private boolean isKeptBy(int turn) {
            for (int j = 0; j < corners; j++) {
                int px = turned(turn, 0, x[j], y[j], z[j]);
                int py = turned(turn, 1, x[j], y[j], z[j]);
                int pz = turned(turn, 2, x[j], y[j], z[j]);
                int place = placeOf(px, py, pz, d[j]);
                if (place >= corners || order(place, px, py, pz, d[j]) != 0) {
                    return false;
                }
            }
            return true;
        }

        private long addCornersTo(long sum) {
            long whole = sum;
            for (int j = 0; j < corners; j++) {
                for (int axis = 0; axis < 3; axis++) {
                    int v = coordinate(j, axis);
                    int shared = Math.max(1, commonDivisor(v, d[j]));
                    whole = 31L * whole + v / shared;
                    whole = 31L * whole + d[j] / shared;
                }
            }
            return whole;
        }
    }

    /** All signs that come of one by a set of turns, as codes in order. */
    private static final class Family {
        private final byte[] known = new byte[SIGN_CODES];
        private final int[] codes = new int[MOST_SIGNS];
        private int count;

        private void gather(int turns, int h, int k, int l) {
            Arrays.fill(known, (byte) 0);
            count = 0;
            note(h, k, l);
            for (int i = 0; i < count && i < MOST_SIGNS; i++) {
                noteTurned(turns, codes[i]);
            }
            putInOrder();
        }

        private void noteTurned(int turns, int code) {
            int h = code / 100 - SIGN_REACH;
            int k = code / 10 % 10 - SIGN_REACH;
            int l = code % 10 - SIGN_REACH;
            for (int turn = 0; turn < TURNS; turn++) {
                if ((turns >> turn & 1) == 1) {
                    note(turned(turn, 0, h, k, l), turned(turn, 1, h, k, l), turned(turn, 2, h, k, l));
                }
            }
        }

        private void note(int h, int k, int l) {
            int code = 100 * (h + SIGN_REACH) + 10 * (k + SIGN_REACH) + l + SIGN_REACH;
            if (code >= 0 && code < SIGN_CODES && known[code] == 0 && count < MOST_SIGNS) {
                known[code] = 1;
                codes[count] = code;
                count++;
            }
        }

        private void putInOrder() {
            int put = 0;
            for (int code = 0; code < SIGN_CODES && put < count; code++) {
                if (known[code] != 0) {
                    codes[put] = code;
                    put++;
                }
            }
        }
    }

    /** The text, and how planes are read out of it; where reading fails, at is the fault. */
    private static final class Reader {
        private static final int END = -1;

        private final byte[] bytes = new byte[MOST_BYTES];
        private int length;
        private int at;
        private int turns;
        private int h;
        private int k;
        private int l;
        private int away;
        private int figure;

        private boolean readAll(Planes into, Family signs) {
            at = 0;
            for (int i = 0; i < MOST_BYTES; i++) {
                if (!readOne(into, signs)) {
                    return false;
                }
                if (look() == END) {
                    return true;
                }
            }
            return false;
        }

        private boolean readOne(Planes into, Family signs) {
            turns = 0;
            if (isColonAhead() && !readTurns()) {
                return false;
            }
            return readSign() && readOff() && endOne(into, signs);
        }

        private boolean isColonAhead() {
            for (int i = at; i < length && bytes[i] != ';'; i++) {
                if (bytes[i] == ':') {
                    return true;
                }
            }
            return false;
        }

        // The next byte that is no blank; at comes to it.
        private int look() {
            while (at < length && bytes[at] == ' ') {
                at++;
            }
            return at < length ? bytes[at] : END;
        }

        private boolean readTurns() {
            for (int i = 0; i < MOST_BYTES; i++) {
                int c = look();
                if (c == ':' && turns != 0) {
                    at++;
                    return true;
                }
                if (c < '0' || c > '5') {
                    return false;
                }
                turns |= 1 << (c - '0');
                at++;
            }
            return false;
        }

        private boolean readSign() {
            if (!readFigure()) {
                return false;
            }
            h = figure;
            if (!readFigure()) {
                return false;
            }
            k = figure;
            if (!readFigure()) {
                return false;
            }
            l = figure;
            if (look() != '/' || !isSign(h, k, l)) {
                return false;
            }
            at++;
            return true;
        }

        private boolean readFigure() {
            int c = look();
            boolean isBelow = c == '-';
            if (isBelow) {
                at++;
                c = look();
            }
            if (c < '0' || c > '3') {
                return false;
            }
            figure = isBelow ? '0' - c : c - '0';
            at++;
            return true;
        }

        private boolean readOff() {
            look();
            int start = at;
            away = 0;
            while (at < length && bytes[at] >= '0' && bytes[at] <= '9') {
                // Beyond two figures the value no longer matters, and must not run over.
                away = at - start < 2 ? 10 * away + bytes[at] - '0' : 0;
                at++;
            }
            if (at - start > 2 || !isOff(away)) {
                at = start;
                return false;
            }
            return true;
        }

        private boolean endOne(Planes into, Family signs) {
            if (look() != ';') {
                return false;
            }
            signs.gather(turns, h, k, l);
            if (into.count + signs.count > MOST_PLANES) {
                return false;
            }
            into.putFamily(signs, away);
            at++;
            return true;
        }
    }
}
