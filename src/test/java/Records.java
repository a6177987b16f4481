/** Records for the tests, made by few calls: an object is used for 512 calls at most. */
final class Records {
    static final int NONE = BuoyReader.NONE;
    static final int GAP = BuoyReader.GAP;
    static final int FULL = 600;

    private Records() { }

    static long pack(int a, int b, int c, int d) {
        return (a & 0xFFFFL) << 48 | (b & 0xFFFFL) << 32 | (c & 0xFFFFL) << 16 | d & 0xFFFFL;
    }

    /** The values come, by fours as far as that goes. */
    static void come(BuoyReader x, int... values) {
        int i = 0;
        for (; i + 4 <= values.length; i += 4) {
            x.four(pack(values[i], values[i + 1], values[i + 2], values[i + 3]));
        }
        for (; i < values.length; i++) {
            x.heave(values[i]);
        }
    }

    static BuoyReader of(int... values) {
        BuoyReader x = new BuoyReader();
        come(x, values);
        return x;
    }

    static int[] row(int many, int... pattern) {
        int[] values = new int[many];
        for (int i = 0; i < many; i++) {
            values[i] = pattern[i % pattern.length];
        }
        return values;
    }

    static int[] join(int[]... rows) {
        int many = 0;
        for (int[] row : rows) {
            many += row.length;
        }
        int[] values = new int[many];
        int to = 0;
        for (int[] row : rows) {
            System.arraycopy(row, 0, values, to, row.length);
            to += row.length;
        }
        return values;
    }

    /** As many waves as there are heights, each of two samples: one as high as told, and one of -1. */
    static BuoyReader heights(int... heights) {
        int[] values = new int[2 * heights.length + 2];
        values[0] = -1;
        for (int i = 0; i < heights.length; i++) {
            values[2 * i + 1] = heights[i] - 1;
            values[2 * i + 2] = -1;
        }
        values[values.length - 1] = 1;
        return of(values);
    }

    /** Waves of heights 14, 5, 30, 5, 14, each of two samples, behind a first low sample. */
    static BuoyReader five() {
        return of(-1, 7, -7, 3, -2, 20, -10, 1, -4, 9, -5, 1);
    }
}
