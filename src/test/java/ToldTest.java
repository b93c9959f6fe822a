/** Promises 16 to 22. */
public final class ToldTest {
    private static final Due due = new Due("ToldTest");
    private static final int UNKNOWN = -1, OUTSIDE = -2, STATE = -3, NONE = -9;
    private static final int MOST = Integer.MAX_VALUE, LEAST = Integer.MIN_VALUE;

    public static void main(String[] args) {
        cell();
        layer();
        gapInLayers();
        sum();
        sumRefused();
        about();
        aboutOneGrain();
        aboutWithoutIce();
        gives();
        refusedByPlace();
        mirror();
        quarter();
        turnKeeps();
        turnRefused();
        count();
        greatest();
        due.end();
    }

    /** LAYERS of the YEARS 0, 1 and 3 in cell 0, 0; no ice in 1, 1. */
    private static GlacierYears layered() {
        GlacierYears x = Grounds.of(new int[][] {{2345, 0, -1}, {9999, 0, 0}});
        x.ice(0, 0, 100);
        x.tell(false, 2, 10);
        x.years(1);
        x.tell(false, 2, 0);
        x.years(1);
        x.tell(false, 2, 7);
        x.years(1);
        return x;
    }

    private static void cell() {
        GlacierYears x = layered();
        long[] want = {2345, 117, 2462, 3, 3, 0, 2};
        for (int what = 0; what <= 6; what++) due.is("16: what " + what, x.cell(0, 0, what), want[what]);
        long[] bare = {9999, 0, 9999, 0, NONE, NONE, 9};
        for (int what = 0; what <= 6; what++) due.is("16: bare, what " + what, x.cell(0, 1, what), bare[what]);
        due.is("16: what -1", x.cell(0, 0, -1), OUTSIDE);
        due.is("16: what 7", x.cell(0, 0, 7), OUTSIDE);
        due.is("16: outside goes ahead of state", x.cell(2, 0, 7), OUTSIDE);
        for (int what = 0; what <= 6; what++) due.is("16: a CLIFF", x.cell(2, 0, what), STATE);
        due.is("16: no failures", x.count(4), 0);
    }

    private static void layer() {
        GlacierYears x = layered();
        long[][] want = {{3, 7}, {1, 10}, {0, 100}, {NONE, NONE}};
        for (int i = 0; i < 4; i++) {
            due.is("17: YEAR of " + i, x.layer(0, 0, i, 0), want[i][0]);
            due.is("17: grains of " + i, x.layer(0, 0, i, 1), want[i][1]);
        }
        int[] none = {-1, 4, 60, 61, MOST, LEAST};
        for (int i : none) {
            due.is("17: no LAYER " + i, x.layer(0, 0, i, 0), NONE);
            due.is("17: no LAYER " + i, x.layer(0, 0, i, 1), NONE);
        }
        due.is("17: bare", x.layer(1, 0, 0, 0), NONE);
        due.is("17: bare", x.layer(1, 0, 0, 1), NONE);
        due.is("17: what 2", x.layer(0, 0, 0, 2), OUTSIDE);
        due.is("17: what -1", x.layer(0, 0, 99, -1), OUTSIDE);
        due.is("17: outside goes ahead of state", x.layer(2, 0, 0, 2), OUTSIDE);
        due.is("17: a CLIFF", x.layer(2, 0, 0, 0), STATE);
        due.is("17: a CLIFF has not even none", x.layer(2, 0, -1, 1), STATE);
    }

    /** A LAYER that has all melted is none. */
    private static void gapInLayers() {
        GlacierYears x = Grounds.flat(2, 2, 0);
        x.ice(0, 0, 10);
        x.tell(false, 0, 5);
        x.tell(true, 0, 5);
        x.years(1);
        due.is("17: YEAR 1 is gone", x.layer(0, 0, 0, 0), 0);
        due.is("16: one LAYER", x.cell(0, 0, 3), 1);
        due.is("16: the top one", x.cell(0, 0, 4), 0);
        due.is("16: none elsewhere", x.cell(1, 1, 3), 0);
    }

    private static void sum() {
        GlacierYears x = Grounds.of(new int[][] {{5000, 5500, -1}, {0, 9999, 9999}});
        x.kind(0, 1, 3, 0);
        x.ice(0, 0, 800);
        x.ice(1, 0, 80);
        x.tell(false, 5, 20);
        x.tell(true, 5, 4);
        x.rule(100, 1000);
        x.years(1);
        // Cell 0, 0 has 816: it gives 220 / 8 = 27 to the right (16 of YEAR 1, 11 of YEAR 0), then 102 of YEAR 0
        // to the LAKE below. Cell 1, 0 has 96: it gives 12 of YEAR 1 to the CLIFF.
        due.is("18: came of 0", x.sum(4, 0), 880);
        due.is("18: came of 1", x.sum(4, 1), 40);
        due.is("18: came", x.sum(4, NONE), 920);
        due.is("18: melted", x.sum(1, 1), 8);
        due.is("18: none of 0 melted", x.sum(1, 0), 0);
        due.is("18: fell of 1, the top", x.sum(2, 1), 12);
        due.is("18: fell of 0", x.sum(2, 0), 0);
        due.is("18: floated of 1", x.sum(3, 1), 0);
        due.is("18: floated of 0", x.sum(3, 0), 102);
        due.is("18: floated", x.sum(3, NONE), 102);
        due.is("18: lies of 0", x.sum(0, 0), 880 - 102);
        due.is("18: lies of 1", x.sum(0, 1), 40 - 8 - 12);
        due.is("18: lies", x.sum(0, NONE), x.cell(0, 0, 1) + x.cell(1, 0, 1));
        due.is("18: of a YEAR to come", x.sum(4, 60), 0);
        for (int year = 0; year <= 60; year++) accounted(x, year);
        x.years(20);
        for (int year = 0; year <= 60; year++) accounted(x, year);
        accounted(x, NONE);
        due.is("18: came of 21", x.sum(4, 21), 40);
        due.is("18: came in all", x.sum(4, NONE), 880 + 21 * 40);
    }

    private static void accounted(GlacierYears x, int year) {
        long all = x.sum(0, year) + x.sum(1, year) + x.sum(2, year) + x.sum(3, year);
        due.is("18: every grain accounted for", all, x.sum(4, year));
    }

    private static void sumRefused() {
        GlacierYears x = new GlacierYears();
        due.is("18: no ground", x.sum(0, 0), STATE);
        due.is("18: no ground", x.sum(4, NONE), STATE);
        int[] years = {-1, -8, -10, 61, MOST, LEAST};
        for (int year : years) due.is("18: year " + year + ", ahead of state", x.sum(0, year), OUTSIDE);
        int[] whats = {-1, 5, NONE, MOST, LEAST};
        for (int what : whats) due.is("18: what " + what + ", ahead of state", x.sum(what, 0), OUTSIDE);
        x.ground(2, 2);
        for (int year : years) due.is("18: year " + year, x.sum(0, year), OUTSIDE);
        for (int what : whats) due.is("18: what " + what, x.sum(what, 0), OUTSIDE);
        for (int what = 0; what <= 4; what++) due.is("18: CLIFFS alone", x.sum(what, 60), 0);
        due.is("18: no failures", x.count(4), 0);
    }

    private static void about() {
        GlacierYears x = Grounds.of(new int[][] {{9000, 100, 0}, {50, -1, 90}, {7, 8, 9}});
        x.ice(0, 0, 500);
        x.ice(2, 0, 300);
        x.ice(1, 2, 500);
        x.ice(0, 1, 400);
        long[] want = {4, 500, 300, 0, 0};
        for (int what = 0; what <= 4; what++) due.is("19: what " + what, x.about(what), want[what]);
        x.ice(1, 2, 1);
        long[] more = {4, 501, 300, 0, 17};
        for (int what = 0; what <= 4; what++) due.is("19: more, what " + what, x.about(what), more[what]);
        x.ice(2, 1, 501);
        due.is("19: two as thick: the first, row by row", x.about(4), 10);
        due.is("19: what -1", x.about(-1), OUTSIDE);
        due.is("19: what 5", x.about(5), OUTSIDE);
        x = Grounds.flat(2, 2, 1500);
        x.tell(false, 1, 5);
        x.years(2);
        due.is("19: the oldest YEAR", x.about(3), 1);
        due.is("19: all as thick: the first", x.about(4), 0);
        due.is("19: the lowest SURFACE", x.about(2), 1510);
    }

    private static void aboutOneGrain() {
        GlacierYears x = Grounds.of(new int[][] {{3000, 5000}, {5000, 5000}});
        x.ice(0, 0, 1);
        long[] want = {1, 1, 3001, 0, 0};
        for (int what = 0; what <= 4; what++) due.is("19: one grain, what " + what, x.about(what), want[what]);
        due.is("16: one grain is a LAYER", x.cell(0, 0, 3), 1);
        due.is("17: one grain is a LAYER", x.layer(0, 0, 0, 1), 1);
        x.tell(false, 5, 9);
        x.years(1);
        due.is("19: one grain of YEAR 0 lies", x.about(3), 0);
        due.is("19: the lowest SURFACE is the first", x.about(2), 3001);
        x.tell(true, 3, 1);
        x.years(1);
        due.is("13: one grain melts", x.cell(0, 0, 1), 0);
        due.is("19: YEAR 0 is gone", x.about(3), 1);
        due.is("19: two of the others are as thick", x.about(4), 1);
    }

    private static void aboutWithoutIce() {
        GlacierYears x = new GlacierYears();
        for (int what = 0; what <= 4; what++) due.is("19: no ground", x.about(what), STATE);
        due.is("19: outside goes ahead of state", x.about(5), OUTSIDE);
        due.is("19: outside goes ahead of state", x.about(LEAST), OUTSIDE);
        long[] want = {0, 0, NONE, NONE, NONE};
        x.ground(2, 2);
        for (int what = 0; what <= 4; what++) due.is("19: CLIFFS", x.about(what), want[what]);
        Grounds.lay(x, new int[][] {{1, 2}, {3, 4}});
        x.tell(false, 0, 5);
        x.tell(true, 0, 5);
        x.years(3);
        for (int what = 0; what <= 4; what++) due.is("19: no ice is left", x.about(what), want[what]);
    }

    private static void gives() {
        GlacierYears x = Grounds.of(new int[][] {{9, 4970, 9}, {4920, 5000, -1}, {9, 5100, 9}});
        x.ice(1, 1, 80);
        x.rule(100, 1000);
        long[] want = {10, 10, 0, 10};
        for (int side = 0; side <= 3; side++) due.is("20: side " + side, x.gives(1, 1, side), want[side]);
        x.ice(1, 0, 70);
        x.ice(0, 1, 100);
        due.is("20: above lies ice: D is 40", x.gives(1, 1, 0), 5);
        due.is("20: left lies ice: D is 60", x.gives(1, 1, 3), 7);
        due.is("20: it is not given back", x.gives(1, 0, 2), 0);
        due.is("20: nothing above THE GROUND", x.gives(1, 0, 0), 0);
        due.is("20: nothing left of it", x.gives(0, 1, 3), 0);
        x.ice(2, 2, 800);
        x.ice(0, 2, 800);
        due.is("20: nothing right of it", x.gives(2, 2, 1), 0);
        due.is("20: nothing below it", x.gives(2, 2, 2), 0);
        due.is("20: a CLIFF above", x.gives(2, 2, 0), 100);
        due.is("20: no ice", x.gives(2, 0, 2), 0);
        due.is("20: side -1", x.gives(1, 1, -1), OUTSIDE);
        due.is("20: side 4", x.gives(1, 1, 4), OUTSIDE);
        due.is("20: outside goes ahead of state", x.gives(2, 1, 4), OUTSIDE);
        due.is("20: a CLIFF", x.gives(2, 1, 0), STATE);
        due.is("20: telling changes nothing", x.cell(1, 1, 1), 80);
    }

    private static void refusedByPlace() {
        GlacierYears x = new GlacierYears();
        places(x, new int[][] {{0, 0}, {1, 1}, {-1, 0}});
        Grounds.lay(x, new int[][] {{1, 2, 3}, {4, 5, 6}});
        places(x, new int[][] {{-1, 0}, {0, -1}, {3, 0}, {0, 2}, {8, 0}, {0, 8}, {MOST, 0}, {0, MOST}, {LEAST, 0}, {0, LEAST}});
        due.is("UNKNOWN is no failure", x.count(4), 0);
    }

    private static void places(GlacierYears x, int[][] nowhere) {
        for (int[] p : nowhere) {
            String at = p[0] + ", " + p[1];
            due.is("16: " + at, x.cell(p[0], p[1], 9), UNKNOWN);
            due.is("17: " + at, x.layer(p[0], p[1], 0, 9), UNKNOWN);
            due.is("20: " + at, x.gives(p[0], p[1], 9), UNKNOWN);
            due.is("12: " + at, x.ice(p[0], p[1], -1), UNKNOWN);
            due.is("8: " + at, x.kind(p[0], p[1], 9, 0), UNKNOWN);
            due.is("9: " + at, x.taken(p[0], p[1], 9, 0), UNKNOWN);
        }
    }

    private static GlacierYears uneven() {
        GlacierYears x = Grounds.of(new int[][] {{10, 1000, 2000}, {3000, 4000, -1}});
        x.kind(1, 0, 1, 11);
        x.kind(0, 1, 3, 22);
        x.ice(2, 0, 500);
        x.ice(0, 0, 300);
        x.ice(0, 1, 40);
        return x;
    }

    private static void mirror() {
        GlacierYears x = uneven();
        long[] before = Seen.all(x);
        due.is("21: mirrored", x.turn(0), 3);
        long[][] levels = {{2000, 1000, 10}, {STATE, 4000, 3000}};
        for (int i = 0; i < 6; i++) due.is("21: mirrored", x.cell(i % 3, i / 3, 0), levels[i / 3][i % 3]);
        due.is("21: its ice", x.cell(0, 0, 1), 500);
        due.is("21: its ice", x.cell(2, 0, 1), 300);
        due.is("21: its kind", x.taken(2, 1, 3, 1), 22);
        due.is("21: its kind", x.taken(1, 0, 1, 1), 11);
        due.is("21: its CLIFF", x.taken(0, 1, 4, 0), 4);
        due.is("21: the first of the thickest", x.about(4), 0);
        due.is("21: twice", x.turn(0), 3);
        due.holds("21: as it was", Seen.alike(before, Seen.all(x)));
    }

    private static void quarter() {
        GlacierYears x = uneven();
        long[] before = Seen.all(x);
        due.is("21: turned", x.turn(1), 2);
        due.is("21: height", x.count(1), 3);
        long[][] levels = {{3000, 10}, {4000, 1000}, {STATE, 2000}};
        for (int i = 0; i < 6; i++) due.is("21: turned", x.cell(i % 2, i / 2, 0), levels[i / 2][i % 2]);
        due.is("21: its ice", x.cell(1, 2, 1), 500);
        due.is("21: its ice", x.layer(1, 0, 0, 1), 300);
        due.is("21: its kind", x.taken(0, 0, 3, 1), 22);
        due.is("21: its kind", x.taken(1, 1, 1, 1), 11);
        due.is("21: its CLIFF", x.taken(0, 2, 4, 0), 4);
        due.is("21: beyond", x.cell(2, 0, 0), UNKNOWN);
        due.is("21: the thickest", x.about(4), 17);
        due.is("21: CLIFFS", x.count(5), 1);
        due.is("21: again", x.turn(1), 3);
        due.is("21: again", x.turn(1), 2);
        due.is("21: again", x.turn(1), 3);
        due.holds("21: as it was", Seen.alike(before, Seen.all(x)));
    }

    private static void turnKeeps() {
        GlacierYears x = uneven();
        GlacierYears twin = uneven();
        x.tell(false, 2, 50);
        x.tell(true, 2, 5);
        x.rule(100, 1000);
        twin.tell(false, 2, 50);
        twin.tell(true, 2, 5);
        twin.rule(100, 1000);
        x.years(2);
        twin.years(2);
        x.turn(0);
        for (int what = 0; what <= 4; what++) {
            for (int year = 0; year <= 3; year++) due.is("21: sums stay", x.sum(what, year), twin.sum(what, year));
        }
        due.is("21: the YEAR stays", x.count(2), 2);
        due.is("21: LAYERS stay", x.layer(0, 0, 1, 1), twin.layer(2, 0, 1, 1));
        due.is("21: none can be taken back", x.count(3), 0);
        x.turn(0);
        due.is("21: it goes on", x.years(1), 3);
        due.is("21: one can be taken back", x.count(3), 1);
        twin.years(1);
        due.holds("21: as its twin", Seen.alike(Seen.all(twin), Seen.all(x)));
        due.is("21: SNOW stays", x.tell(false, 2, 1), 50);
    }

    private static void turnRefused() {
        GlacierYears x = new GlacierYears();
        int[] wrong = {-1, 2, MOST, LEAST};
        for (int how : wrong) due.is("21: outside goes ahead of state", x.turn(how), OUTSIDE);
        due.is("21: no ground", x.turn(0), STATE);
        due.is("21: no ground", x.turn(1), STATE);
        x = uneven();
        x.years(1);
        for (int how : wrong) due.is("21: how " + how, x.turn(how), OUTSIDE);
        due.is("21: can still be taken back", x.count(3), 1);
        due.is("21: width", x.count(0), 3);
        due.is("21: no failures", x.count(4), 0);
    }

    private static void count() {
        GlacierYears x = uneven();
        x.years(7);
        x.put(7, 0, 0);
        x.put(0, 9, 0);
        x.at(0, 0, 0);
        x.strip(0, 0, -1);
        x.taken(0, 0, 4, 0);
        long[] want = {3, 2, 7, 5, 5, 1, 2};
        for (int what = 0; what <= 6; what++) due.is("22: what " + what, x.count(what), want[what]);
        int[] wrong = {-1, 7, NONE, MOST, LEAST};
        for (int what : wrong) due.is("22: what " + what, x.count(what), OUTSIDE);
        x.back();
        x.ground(8, 8);
        long[] anew = {8, 8, 0, 0, 5, 59, 2};
        for (int what = 0; what <= 6; what++) due.is("22: anew, what " + what, x.count(what), anew[what]);
    }

    /** The greatest ground, without a CLIFF, so that every row is full. */
    private static void greatest() {
        GlacierYears x = Grounds.flat(8, 8, 9999);
        x.kind(7, 7, 3, 0);
        x.ice(6, 7, 1000000);
        x.tell(false, 9, 100000);
        x.rule(100, 1000000);
        due.is("20: the last cell, to the left", x.gives(6, 7, 1), 125000);
        due.is("13: 60 YEARS", x.years(60), 60);
        due.is("18: came", x.sum(4, NONE), 60L * 64 * 100000 + 1000000);
        accounted(x, NONE);
        due.is("19: ice in all but the LAKE", x.about(0), 63);
        due.is("19: the lowest SURFACE", x.about(2), lowestOf(x));
        due.is("14: back", x.back(), 59);
        due.is("15: steady", x.steady(1), 0);
        due.is("21: turned", x.turn(1), 8);
        due.is("21: the LAKE", x.taken(0, 7, 3, 0), 3);
        due.is("21: mirrored", x.turn(0), 8);
        due.is("21: the LAKE", x.taken(7, 7, 3, 0), 3);
        due.is("19: no CLIFFS", x.count(5), 0);
        accounted(x, NONE);
        x = Grounds.flat(8, 8, 0);
        due.is("15: 60 YEARS of nothing are alike", x.steady(60), 1);
        x.tell(false, 0, 1);
        due.is("15: 59 YEARS", x.steady(59), 0);
        due.is("15: the last THICKNESS", x.cell(7, 7, 1), 59);
    }

    private static long lowestOf(GlacierYears x) {
        long lowest = Long.MAX_VALUE;
        for (int i = 0; i < 63; i++) lowest = Math.min(lowest, x.cell(i % 8, i / 8, 2));
        return lowest;
    }
}
