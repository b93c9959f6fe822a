/** Lays grounds from rows of LEVELS; a number below 0 makes a CLIFF. */
final class Grounds {
    private Grounds() {
    }

    static int lay(GlacierYears x, int[][] levels) {
        for (int y = 0; y < levels.length; y++) {
            x.strip(y, 1, levels[y].length);
            for (int i = 0; i < levels[y].length; i++) x.put(y, i, levels[y][i]);
        }
        return x.ground(levels[0].length, levels.length);
    }

    static GlacierYears of(int[][] levels) {
        GlacierYears x = new GlacierYears();
        lay(x, levels);
        return x;
    }

    /** All cells of one LEVEL. */
    static GlacierYears flat(int width, int height, int level) {
        int[][] levels = new int[height][width];
        for (int[] row : levels) java.util.Arrays.fill(row, level);
        return of(levels);
    }

    /** One cell of a LEVEL in the middle of CLIFFS. */
    static GlacierYears pillar(int level) {
        return of(new int[][] {{-1, -1, -1}, {-1, level, -1}, {-1, -1, -1}});
    }
}
