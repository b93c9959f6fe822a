/** The numbers beside what a sentence allows, nearest first, and the least and greatest int. */
final class Edge {
    static final int MOST = Integer.MAX_VALUE, LEAST = Integer.MIN_VALUE;
    static final int UNKNOWN = -1, OUTSIDE = -2, STATE = -3, FULL = -4, NONE = -9;
    static final int NULL = -11, INDEX = -12, CAST = -13, SIZE = -14;
    /** 256 and 65536 have the lowest bits of a STRIP that there is. */
    static final int[] NO_STRIPS = {-1, 8, 9, 256, 65536, LEAST, MOST};

    private Edge() {
    }

    /** All that lie beside least .. most. */
    static int[] beside(int least, int most) {
        return new int[] {least - 1, most + 1, LEAST, LEAST + 1, MOST - 1, MOST};
    }

    static int[] below(int least) {
        return new int[] {least - 1, least - 2, LEAST + 1, LEAST};
    }

    static int[] above(int most) {
        return new int[] {most + 1, most + 2, MOST - 1, MOST};
    }
}
