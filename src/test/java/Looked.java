import java.util.function.Supplier;

/** A crystal as its answers tell it; each corner is asked of a new object, so that none is used too often. */
final class Looked {
    /** A point's coordinates as (above, below), three times. */
    record Corner(long[] parts, int meets) {
        /** h x and k y and l z together, less off, times what makes it whole: below 0, 0 or above 0 as the sum itself. */
        long beyond(int[] plane) {
            long whole = parts[1] * parts[3] * parts[5];
            return plane[0] * parts[0] * (whole / parts[1]) + plane[1] * parts[2] * (whole / parts[3])
                + plane[2] * parts[4] * (whole / parts[5]) - plane[3] * whole;
        }
    }

    final int[][] planes;
    final Corner[] corners;

    Looked(Supplier<CrystalCuts> made) {
        CrystalCuts x = made.get();
        planes = new int[x.told(4)][4];
        for (int p = 0; p < planes.length; p++) {
            for (int what = 0; what <= 3; what++) {
                planes[p][what] = x.of(p, what);
            }
        }
        corners = new Corner[x.all(3)];
        for (int j = 0; j < corners.length; j++) {
            CrystalCuts y = made.get();
            long[] parts = new long[6];
            for (int a = 0; a < 3; a++) {
                y.corner(j, a);
                parts[2 * a] = y.part(0);
                parts[2 * a + 1] = y.part(1);
            }
            corners[j] = new Corner(parts, y.meets(j, 1));
        }
    }

    static long det(int[] a, int[] b, int[] c) {
        return (long) a[0] * (b[1] * c[2] - b[2] * c[1]) + (long) a[1] * (b[2] * c[0] - b[0] * c[2])
            + (long) a[2] * (b[0] * c[1] - b[1] * c[0]);
    }

    static long commonDivisor(long a, long b) {
        return b == 0 ? Math.abs(a) : commonDivisor(b, a % b);
    }
}
