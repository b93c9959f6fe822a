import java.util.ArrayList;
import java.util.Arrays;
import java.util.List;

/** All that a GlacierYears tells without changing: to see whether two states are alike. */
final class Seen {
    private Seen() {
    }

    /** Without how many YEARS can be taken back, which differs between states that are otherwise alike. */
    static long[] all(GlacierYears x) {
        return told(x, 0, 1, 2, 4, 5, 6);
    }

    static long[] withoutFailures(GlacierYears x) {
        return told(x, 0, 1, 2, 3, 5, 6);
    }

    private static long[] told(GlacierYears x, int... counts) {
        List<Long> seen = new ArrayList<>();
        for (int what : counts) seen.add((long) x.count(what));
        for (int y = 0; y < 8; y++) {
            for (int i = 0; i < 8; i++) place(x, i, y, seen);
        }
        for (int what = 0; what <= 4; what++) {
            seen.add(x.about(what));
            for (int year = -9; year <= 60; year++) seen.add(x.sum(what, year));
        }
        long[] all = new long[seen.size()];
        for (int i = 0; i < all.length; i++) all[i] = seen.get(i);
        return all;
    }

    private static void place(GlacierYears x, int i, int y, List<Long> seen) {
        seen.add((long) x.taken(i, y, 0, 0));
        seen.add((long) x.taken(i, y, 0, 1));
        for (int what = 0; what <= 6; what++) seen.add(x.cell(i, y, what));
        for (int side = 0; side <= 3; side++) seen.add(x.gives(i, y, side));
        for (int layer = 0; layer <= 61; layer++) {
            long year = x.layer(i, y, layer, 0);
            seen.add(year);
            seen.add(x.layer(i, y, layer, 1));
            if (year < 0) break;
        }
    }

    static boolean alike(long[] a, long[] b) {
        return Arrays.equals(a, b);
    }
}
