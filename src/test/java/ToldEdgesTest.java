/** Each sentence of the document on what is told that names a boundary: promises 16 to 22. */
public final class ToldEdgesTest {
    private static final Due due = new Due("ToldEdgesTest");

    public static void main(String[] args) {
        cellWhats();
        cellWithoutIce();
        cellOfOneLayer();
        cellOf61Layers();
        cellIsACliff();
        layersItHas();
        layerWhats();
        layersBetweenAreNone();
        sumOfYears0To60();
        sumOfAll();
        sumWhats();
        sumWithoutGround();
        aboutWhats();
        aboutWithoutIce();
        aboutLowestSurface();
        aboutTheFirstCell();
        aboutOldestYear();
        givesSides();
        givesWhereThereIsNone();
        givesNow();
        turnHow();
        mirrored();
        turnedByAQuarter();
        turnedFourTimes();
        countWhats();
        countWithoutGround();
        countCliffs();
        countStrips();
        due.end();
    }

    /** "0 its LEVEL, ... 6 BAND", "OUTSIDE". */
    private static void cellWhats() {
        GlacierYears x = Grounds.of(new int[][] {{3456, -1}, {0, 9999}});
        for (int what : Edge.beside(0, 6)) {
            due.is("16: what " + what, x.cell(0, 0, what), Edge.OUTSIDE);
            due.is("16: OUTSIDE goes ahead of STATE", x.cell(1, 0, what), Edge.OUTSIDE);
            due.is("16: UNKNOWN goes ahead of OUTSIDE", x.cell(2, 0, what), Edge.UNKNOWN);
        }
        x.ice(0, 0, 100);
        long[] want = {3456, 100, 3556, 1, 0, 0, 3};
        for (int what = 0; what <= 6; what++) due.is("16: what " + what, x.cell(0, 0, what), want[what]);
        due.is("16: no failures", x.count(4), 0);
    }

    /** "4 the YEAR of its top one, 5 of its lowest one (both NONE without)". */
    private static void cellWithoutIce() {
        GlacierYears x = Grounds.of(new int[][] {{0, 9999}, {0, 0}});
        long[] low = {0, 0, 0, 0, Edge.NONE, Edge.NONE, 0};
        long[] high = {9999, 0, 9999, 0, Edge.NONE, Edge.NONE, 9};
        for (int years = 0; years <= 60; years += 30) {
            for (int what = 0; what <= 6; what++) due.is("16: LEVEL 0, what " + what, x.cell(0, 0, what), low[what]);
            for (int what = 0; what <= 6; what++) due.is("16: LEVEL 9999, what " + what, x.cell(1, 0, what), high[what]);
            x.years(30);
        }
        x.ground(2, 2);
        x.ice(0, 0, 5);
        x.tell(true, 0, 5);
        x.years(1);
        for (int what = 0; what <= 6; what++) due.is("16: all of it MELTED, what " + what, x.cell(0, 0, what), low[what]);
    }

    private static void cellOfOneLayer() {
        GlacierYears x = Grounds.flat(2, 2, 0);
        x.years(59);
        x.tell(false, 0, 1);
        x.years(1);
        due.is("16: one LAYER", x.cell(0, 0, 3), 1);
        due.is("16: its top one is of 60", x.cell(0, 0, 4), 60);
        due.is("16: so is its lowest one", x.cell(0, 0, 5), 60);
        x.back();
        due.is("16: none", x.cell(0, 0, 4), Edge.NONE);
        x.ground(2, 2);
        x.ice(0, 0, 1);
        due.is("16: its top one is of 0", x.cell(0, 0, 4), 0);
        due.is("16: so is its lowest one", x.cell(0, 0, 5), 0);
    }

    /** Ice of YEAR 0 and SNOW of all 60. */
    private static GlacierYears of61() {
        GlacierYears x = Grounds.flat(2, 2, 0);
        for (int i = 0; i < 4; i++) x.ice(i % 2, i / 2, 100);
        for (int year = 1; year <= 60; year++) {
            x.tell(false, 0, year);
            x.years(1);
        }
        return x;
    }

    private static void cellOf61Layers() {
        GlacierYears x = of61();
        due.is("16: LAYERS", x.cell(1, 1, 3), 61);
        due.is("16: top", x.cell(1, 1, 4), 60);
        due.is("16: lowest", x.cell(1, 1, 5), 0);
        due.is("16: THICKNESS", x.cell(1, 1, 1), 100 + 1830);
        for (int i = 0; i <= 60; i++) {
            due.is("17: YEAR of " + i, x.layer(1, 1, i, 0), 60 - i);
            due.is("17: grains of " + i, x.layer(1, 1, i, 1), i == 60 ? 100 : 60 - i);
        }
        due.is("17: one behind", x.layer(1, 1, 61, 0), Edge.NONE);
        due.is("17: one behind", x.layer(1, 1, 61, 1), Edge.NONE);
    }

    /** "STATE: it is a CLIFF": to each call that names it. */
    private static void cellIsACliff() {
        GlacierYears x = Grounds.of(new int[][] {{5, -1}, {5, 5}});
        for (int what = 0; what <= 6; what++) due.is("16: a CLIFF, " + what, x.cell(1, 0, what), Edge.STATE);
        for (int what = 0; what <= 1; what++) due.is("17: a CLIFF, " + what, x.layer(1, 0, 0, what), Edge.STATE);
        for (int side = 0; side <= 3; side++) due.is("20: a CLIFF, " + side, x.gives(1, 0, side), Edge.STATE);
        x.rule(100, 1000);
        x.ice(0, 0, 800);
        x.years(1);
        due.is("16: where ice fell", x.cell(1, 0, 1), Edge.STATE);
        due.is("17: where ice fell", x.layer(1, 0, 0, 1), Edge.STATE);
    }

    /** "NONE: it has not so many." */
    private static void layersItHas() {
        GlacierYears x = Grounds.flat(2, 2, 0);
        x.ice(0, 0, 9);
        for (int years = 1; years <= 3; years++) {
            for (int i : new int[] {-1, -2, years, years + 1, 60, 61, 62, Edge.LEAST, Edge.MOST}) {
                due.is("17: no LAYER " + i, x.layer(0, 0, i, 0), Edge.NONE);
                due.is("17: no LAYER " + i, x.layer(0, 0, i, 1), Edge.NONE);
            }
            due.is("17: the last one", x.layer(0, 0, years - 1, 0), 0);
            due.is("17: the last one", x.layer(0, 0, years - 1, 1), 9);
            due.is("17: a cell of one less", x.layer(1, 1, years - 1, 0), Edge.NONE);
            x.tell(false, 0, 1);
            x.years(1);
        }
        due.is("17: no failures", x.count(4), 0);
    }

    /** "OUTSIDE: what" goes behind UNKNOWN, ahead of STATE and NONE. */
    private static void layerWhats() {
        GlacierYears x = Grounds.of(new int[][] {{5, -1}, {5, 5}});
        for (int what : Edge.beside(0, 1)) {
            due.is("17: what " + what, x.layer(0, 0, 0, what), Edge.OUTSIDE);
            due.is("17: ahead of NONE", x.layer(0, 0, 99, what), Edge.OUTSIDE);
            due.is("17: ahead of STATE", x.layer(1, 0, 0, what), Edge.OUTSIDE);
            due.is("17: behind UNKNOWN", x.layer(2, 0, 0, what), Edge.UNKNOWN);
        }
        due.is("17: STATE goes ahead of NONE", x.layer(1, 0, -1, 0), Edge.STATE);
        due.is("17: UNKNOWN goes ahead of NONE", x.layer(0, 2, -1, 0), Edge.UNKNOWN);
    }

    /** A YEAR of which a cell has no ice is no LAYER: neither on top, nor between, nor below. */
    private static void layersBetweenAreNone() {
        GlacierYears x = Grounds.flat(2, 2, 0);
        int[] snows = {0, 4, 0, 0, 6, 0};
        for (int snow : snows) {
            x.tell(false, 0, snow);
            x.years(1);
        }
        due.is("16: two", x.cell(0, 0, 3), 2);
        due.is("17: the top one", x.layer(0, 0, 0, 0), 5);
        due.is("17: the top one", x.layer(0, 0, 0, 1), 6);
        due.is("17: the next one", x.layer(0, 0, 1, 0), 2);
        due.is("17: the next one", x.layer(0, 0, 1, 1), 4);
        due.is("17: no more", x.layer(0, 0, 2, 0), Edge.NONE);
        x.tell(true, 0, 6);
        x.years(1);
        due.is("17: the top one MELTED whole", x.layer(0, 0, 0, 0), 2);
        due.is("16: one", x.cell(0, 0, 3), 1);
    }

    /** "year (0 .. 60)". */
    private static void sumOfYears0To60() {
        GlacierYears x = of61();
        for (int what = 0; what <= 4; what += 4) {
            due.is("18: of 0", x.sum(what, 0), 400);
            due.is("18: of 1", x.sum(what, 1), 4);
            due.is("18: of 60", x.sum(what, 60), 240);
            due.is("18: of all", x.sum(what, Edge.NONE), 400 + 4 * 1830);
        }
        int[] none = {-1, -2, -8, -10, 61, 62, Edge.LEAST, Edge.MOST};
        for (int year : none) {
            for (int what = 0; what <= 4; what++) due.is("18: year " + year, x.sum(what, year), Edge.OUTSIDE);
        }
        x.back();
        due.is("18: of a YEAR that was taken back", x.sum(4, 60), 0);
        due.is("18: of the one ahead", x.sum(4, 59), 236);
        x.ground(2, 2);
        for (int year = 0; year <= 60; year += 60) due.is("18: of a YEAR to come", x.sum(4, year), 0);
    }

    /** "(NONE: of all)": each kind of sum is the sum of its YEARS, and each YEAR's grains are accounted for. */
    private static void sumOfAll() {
        GlacierYears x = Grounds.of(new int[][] {{2000, 1000, -1}, {0, 0, 0}});
        x.kind(0, 1, 3, 10);
        x.ice(0, 0, 5000);
        for (int band = 0; band < 3; band++) {
            x.tell(false, band, 100);
            x.tell(true, band, 20 + band);
        }
        x.rule(100, 1000);
        x.years(20);
        for (int what = 0; what <= 4; what++) {
            long all = 0;
            for (int year = 0; year <= 60; year++) all += x.sum(what, year);
            due.is("18: what " + what, x.sum(what, Edge.NONE), all);
            due.holds("18: there is some of what " + what, all > 0);
        }
        for (int year = 0; year <= 20; year++) {
            due.is("18: of " + year, x.sum(0, year) + x.sum(1, year) + x.sum(2, year) + x.sum(3, year), x.sum(4, year));
        }
        due.is("18: came", x.sum(4, Edge.NONE), 5000 + 20 * 5 * 100);
    }

    private static void sumWhats() {
        GlacierYears x = of61();
        for (int what : Edge.beside(0, 4)) {
            due.is("18: what " + what, x.sum(what, 0), Edge.OUTSIDE);
            due.is("18: what " + what, x.sum(what, Edge.NONE), Edge.OUTSIDE);
            due.is("18: both", x.sum(what, 61), Edge.OUTSIDE);
        }
        due.is("18: NONE is no what", x.sum(Edge.NONE, 0), Edge.OUTSIDE);
        due.is("18: no failures", x.count(4), 0);
    }

    /** "OUTSIDE: year, what; STATE: no GROUND." */
    private static void sumWithoutGround() {
        GlacierYears x = new GlacierYears();
        for (int what = 0; what <= 4; what++) {
            for (int year = 0; year <= 60; year += 60) due.is("18: no GROUND", x.sum(what, year), Edge.STATE);
            due.is("18: no GROUND", x.sum(what, Edge.NONE), Edge.STATE);
            due.is("18: OUTSIDE goes ahead of STATE", x.sum(what, 61), Edge.OUTSIDE);
            due.is("18: OUTSIDE goes ahead of STATE", x.sum(what, -1), Edge.OUTSIDE);
        }
        due.is("18: OUTSIDE goes ahead of STATE", x.sum(5, 0), Edge.OUTSIDE);
        due.is("18: OUTSIDE goes ahead of STATE", x.sum(-1, Edge.NONE), Edge.OUTSIDE);
        x.ground(2, 2);
        due.is("18: CLIFFS", x.sum(0, Edge.NONE), 0);
    }

    private static void aboutAll(String what, GlacierYears x, long... want) {
        for (int i = 0; i <= 4; i++) due.is("19: " + what + ", what " + i, x.about(i), want[i]);
    }

    private static void aboutWhats() {
        GlacierYears none = new GlacierYears();
        GlacierYears x = Grounds.flat(2, 2, 0);
        for (int what : Edge.beside(0, 4)) {
            due.is("19: what " + what, x.about(what), Edge.OUTSIDE);
            due.is("19: OUTSIDE goes ahead of STATE", none.about(what), Edge.OUTSIDE);
        }
        for (int what = 0; what <= 4; what++) due.is("19: no GROUND", none.about(what), Edge.STATE);
    }

    /** "NONE: no ice". The greatest THICKNESS is 0 then. */
    private static void aboutWithoutIce() {
        GlacierYears x = Grounds.of(new int[][] {{7, -1}, {8, 9}});
        aboutAll("a new GROUND", x, 0, 0, Edge.NONE, Edge.NONE, Edge.NONE);
        x.ice(0, 0, 0);
        aboutAll("ice of 0", x, 0, 0, Edge.NONE, Edge.NONE, Edge.NONE);
        x.ice(1, 1, 1);
        aboutAll("one grain in the last cell", x, 1, 1, 10, 0, 9);
        x.tell(true, 0, 1);
        x.years(1);
        aboutAll("it MELTED", x, 0, 0, Edge.NONE, Edge.NONE, Edge.NONE);
        x.back();
        aboutAll("taken back", x, 1, 1, 10, 0, 9);
        x.ground(2, 3);
        aboutAll("CLIFFS and no ice", x, 0, 0, Edge.NONE, Edge.NONE, Edge.NONE);
    }

    /** "the lowest SURFACE of ice": of cells with ice alone, THICKNESS and all. */
    private static void aboutLowestSurface() {
        GlacierYears x = Grounds.of(new int[][] {{0, 10}, {20, -1}});
        x.ice(1, 0, 30);
        x.ice(0, 1, 21);
        due.is("19: 40 and 41, not the bare 0", x.about(2), 40);
        x.ice(1, 0, 1);
        due.is("19: 41 and 41", x.about(2), 41);
        x.ice(1, 0, 1);
        due.is("19: 42 and 41", x.about(2), 41);
        x.ice(0, 0, 1);
        due.is("19: one grain over 0", x.about(2), 1);
        x = Grounds.flat(2, 2, 9999);
        x.ice(1, 1, 1000000);
        due.is("19: high", x.about(2), 1009999);
    }

    /** "the first cell, row by row, with that THICKNESS (4: 8 y and x)". */
    private static void aboutTheFirstCell() {
        for (int first = 0; first < 64; first += 7) {
            GlacierYears x = Grounds.flat(8, 8, 0);
            for (int i = 0; i < first; i++) x.ice(i % 8, i / 8, 4);
            for (int i = first; i < 64; i++) x.ice(i % 8, i / 8, 5);
            aboutAll("from " + first + " on", x, 64, 5, first == 0 ? 5 : 4, 0, first);
        }
        GlacierYears x = Grounds.flat(2, 3, 0);
        x.ice(1, 1, 5);
        x.ice(0, 2, 5);
        due.is("19: row by row, not column by column", x.about(4), 9);
        x.ice(0, 2, 1);
        due.is("19: 8 y in a narrow GROUND, too", x.about(4), 16);
        due.is("19: the greatest THICKNESS", x.about(1), 6);
        due.is("19: cells with ice", x.about(0), 2);
    }

    private static void aboutOldestYear() {
        GlacierYears x = Grounds.of(new int[][] {{1000, 0}, {0, 0}});
        x.ice(0, 0, 1);
        x.years(2);
        due.is("19: 0", x.about(3), 0);
        x.tell(true, 1, 1);
        x.years(1);
        due.is("19: none", x.about(3), Edge.NONE);
        x.tell(false, 0, 1);
        x.years(1);
        due.is("19: 4, in other cells", x.about(3), 4);
        x.years(56);
        due.is("19: 4 yet", x.about(3), 4);
        x.back();
        x.tell(true, 0, 100000);
        x.tell(false, 0, 0);
        x.years(1);
        due.is("19: none in the YEAR 60", x.about(3), Edge.NONE);
        x.back();
        x.tell(false, 1, 100000);
        x.years(1);
        due.is("19: 60", x.about(3), 60);
    }

    /** "0 above, 1 to the right, 2 below, 3 to the left", "OUTSIDE: side". */
    private static void givesSides() {
        GlacierYears x = Grounds.of(new int[][] {{9, 4970, -1}, {4920, 5000, 4900}, {-1, 4840, 9}});
        x.ice(1, 1, 240);
        x.rule(100, 1000);
        long[] want = {30, 30, 30, 30};
        for (int side = 0; side <= 3; side++) due.is("20: at most THICKNESS / 8", x.gives(1, 1, side), want[side]);
        x.ice(1, 0, 190);
        x.ice(0, 1, 160);
        x.ice(2, 1, 100);
        long[] drops = {80, 240, 400, 160};
        for (int side = 0; side <= 3; side++) {
            due.is("20: by side " + side, x.gives(1, 1, side), Math.min(30, drops[side] / 8));
        }
        for (int side : Edge.beside(0, 3)) {
            due.is("20: side " + side, x.gives(1, 1, side), Edge.OUTSIDE);
            due.is("20: OUTSIDE goes ahead of STATE", x.gives(2, 0, side), Edge.OUTSIDE);
            due.is("20: UNKNOWN goes ahead of OUTSIDE", x.gives(3, 0, side), Edge.UNKNOWN);
        }
        due.is("20: no failures", x.count(4), 0);
    }

    /** "0: there is none": no neighbour at each rim of the least and of the greatest GROUND. */
    private static void givesWhereThereIsNone() {
        for (int size = 2; size <= 8; size += 6) {
            int last = size - 1;
            GlacierYears x = Grounds.flat(size, size, 0);
            x.rule(100, 1000);
            for (int i = 0; i < size; i++) {
                x.ice(i, 0, 8000);
                x.ice(i, last, 8000);
            }
            for (int i = 1; i < last; i++) {
                x.ice(0, i, 8000);
                x.ice(last, i, 8000);
            }
            for (int i = 0; i < size; i++) {
                due.is("20: above the rim", x.gives(i, 0, 0), 0);
                due.is("20: right of the rim", x.gives(last, i, 1), 0);
                due.is("20: below the rim", x.gives(i, last, 2), 0);
                due.is("20: left of the rim", x.gives(0, i, 3), 0);
            }
        }
        GlacierYears x = Grounds.of(new int[][] {{5000, 0}, {-1, 0}});
        x.rule(100, 1000);
        for (int side = 0; side <= 3; side++) due.is("20: no ice", x.gives(0, 0, side), 0);
    }

    /** "now, if ice moved as it is": without SNOW and MELT to come, in the YEAR 60, too; and it changes nothing. */
    private static void givesNow() {
        GlacierYears x = Grounds.of(new int[][] {{5000, 0}, {9999, 9999}});
        x.ice(0, 0, 80);
        x.tell(false, 5, 800);
        x.tell(true, 5, 880);
        x.rule(100, 1000);
        due.is("20: as it is", x.gives(0, 0, 1), 10);
        due.is("20: as it was", x.gives(0, 0, 1), 10);
        x.years(1);
        due.is("20: all MELTED", x.gives(0, 0, 1), 0);
        x.tell(true, 5, 0);
        x.years(59);
        long most = Math.min(x.cell(0, 0, 2) - x.cell(1, 0, 2), x.cell(0, 0, 1)) / 8;
        due.holds("20: there is some to give", most > 0);
        due.is("20: in the YEAR 60", x.gives(0, 0, 1), most);
        x.rule(0, 1);
        due.is("20: as it is told now", x.gives(0, 0, 1), 0);
        x.kind(0, 0, 1, 100);
        due.is("20: as its KIND is now", x.gives(0, 0, 1), most);
    }

    /** "mirrored: 0, or turned by a quarter: 1". */
    private static void turnHow() {
        GlacierYears none = new GlacierYears();
        GlacierYears x = Grounds.of(new int[][] {{1, 2, 3}, {4, 5, 6}});
        x.years(1);
        for (int how : Edge.beside(0, 1)) {
            due.is("21: how " + how, x.turn(how), Edge.OUTSIDE);
            due.is("21: OUTSIDE goes ahead of STATE", none.turn(how), Edge.OUTSIDE);
        }
        for (int how = 0; how <= 1; how++) due.is("21: no GROUND", none.turn(how), Edge.STATE);
        due.is("21: as it was", x.cell(0, 0, 0), 1);
        due.is("21: as wide", x.count(0), 3);
        due.is("22: it can be taken back", x.count(3), 1);
        due.is("21: 0", x.turn(0), 3);
        due.is("21: 1: the WIDTH then", x.turn(1), 2);
        due.is("21: 1: the WIDTH then", x.turn(1), 3);
        due.is("22: none can be taken back", x.count(3), 0);
        due.is("21: no failures", x.count(4), 0);
    }

    /** LEVEL 100 y and x, LAYERS of two YEARS, KINDS, and a CLIFF in the last cell. */
    private static GlacierYears marked(int width, int height) {
        int[][] levels = new int[height][width];
        for (int i = 0; i < width * height; i++) levels[i / width][i % width] = 100 * (i / width) + i % width;
        levels[height - 1][width - 1] = -1;
        GlacierYears x = Grounds.of(levels);
        for (int i = 0; i < width * height - 1; i++) x.ice(i % width, i / width, 10 + i);
        x.tell(false, 0, 3);
        x.years(1);
        for (int i = 0; i < width * height - 1; i++) x.kind(i % width, i / width, i % 4, i);
        return x;
    }

    /** What place i of a marked one holds lies at x, y now. */
    private static void markLiesAt(String what, GlacierYears x, int i, int width, int height, int px, int py) {
        boolean cliff = i == width * height - 1;
        due.is(what + ", LEVEL of " + i, x.cell(px, py, 0), cliff ? Edge.STATE : 100 * (i / width) + i % width);
        due.is(what + ", ice of " + i, x.cell(px, py, 1), cliff ? Edge.STATE : 13 + i);
        due.is(what + ", top LAYER of " + i, x.layer(px, py, 0, 1), cliff ? Edge.STATE : 3);
        due.is(what + ", YEAR 0 of " + i, x.layer(px, py, 1, 1), cliff ? Edge.STATE : 10 + i);
        due.is(what + ", KIND of " + i, x.taken(px, py, 0, 0), cliff ? 4 : i % 4);
        due.is(what + ", share of " + i, x.taken(px, py, 0, 1), cliff || i % 4 == 0 ? 0 : i);
    }

    private static void sumsOfMarked(String what, GlacierYears x, int cells) {
        long told = 10L * (cells - 1) + (cells - 1) * (cells - 2) / 2;
        due.is(what + ", sums", x.sum(4, 0), told);
        due.is(what + ", sums", x.sum(0, Edge.NONE), told + 3 * (cells - 1));
        due.is(what + ", the YEAR", x.count(2), 1);
        due.is(what + ", CLIFFS", x.count(5), 1);
    }

    private static final int[][] SIZES = {{2, 2}, {2, 8}, {8, 2}, {8, 8}, {3, 5}, {5, 3}};

    /** "is mirrored (left and right)". */
    private static void mirrored() {
        for (int[] size : SIZES) {
            GlacierYears x = marked(size[0], size[1]);
            String what = "21: mirrored " + size[0] + " by " + size[1];
            due.is(what, x.turn(0), size[0]);
            due.is(what, x.count(1), size[1]);
            for (int i = 0; i < size[0] * size[1]; i++) {
                markLiesAt(what, x, i, size[0], size[1], size[0] - 1 - i % size[0], i / size[0]);
            }
            sumsOfMarked(what, x, size[0] * size[1]);
        }
    }

    /** "what is at x, y comes to HEIGHT - 1 - y, x". */
    private static void turnedByAQuarter() {
        for (int[] size : SIZES) {
            GlacierYears x = marked(size[0], size[1]);
            String what = "21: turned " + size[0] + " by " + size[1];
            due.is(what, x.turn(1), size[1]);
            due.is(what, x.count(0), size[1]);
            due.is(what, x.count(1), size[0]);
            for (int i = 0; i < size[0] * size[1]; i++) {
                markLiesAt(what, x, i, size[0], size[1], size[1] - 1 - i / size[0], i % size[0]);
            }
            due.is(what + ", beyond", x.cell(size[1], 0, 0), Edge.UNKNOWN);
            due.is(what + ", beyond", x.cell(0, size[0], 0), Edge.UNKNOWN);
            sumsOfMarked(what, x, size[0] * size[1]);
        }
    }

    /** Turned wholly, or mirrored twice, all is as it was; and what it does in a YEAR turns with it. */
    private static void turnedFourTimes() {
        for (int[] size : SIZES) {
            GlacierYears x = marked(size[0], size[1]);
            GlacierYears twin = marked(size[0], size[1]);
            String what = "21: " + size[0] + " by " + size[1];
            for (int i = 0; i < 4; i++) x.turn(1);
            due.holds(what + ", four quarters", Seen.alike(Seen.all(x), Seen.all(twin)));
            for (int i = 0; i < 2; i++) x.turn(0);
            due.holds(what + ", twice mirrored", Seen.alike(Seen.all(x), Seen.all(twin)));
            x.turn(1);
            x.turn(0);
            x.turn(1);
            x.turn(0);
            due.holds(what + ", each twice", Seen.alike(Seen.all(x), Seen.all(twin)));
        }
    }

    /** "0 WIDTH, ... 6 STRIPS", "OUTSIDE". */
    private static void countWhats() {
        GlacierYears x = Grounds.of(new int[][] {{1, 2, 3, -1}, {4, 5, 6, 7}, {8, 9, 10, 11}});
        x.years(3);
        x.at(7, 0, 0);
        x.at(7, 0, 0);
        long[] want = {4, 3, 3, 3, 2, 1, 3};
        for (int what = 0; what <= 6; what++) due.is("22: what " + what, x.count(what), want[what]);
        for (int what : Edge.beside(0, 6)) due.is("22: what " + what, x.count(what), Edge.OUTSIDE);
        due.is("22: OUTSIDE is no failure", x.count(4), 2);
    }

    /** "(both 0 without a GROUND)". */
    private static void countWithoutGround() {
        GlacierYears x = new GlacierYears();
        for (int what = 0; what <= 6; what++) due.is("22: what " + what, x.count(what), 0);
        for (int what : Edge.beside(0, 6)) due.is("22: what " + what, x.count(what), Edge.OUTSIDE);
        x.ground(1, 1);
        x.ground(9, 9);
        due.is("22: WIDTH", x.count(0), 0);
        due.is("22: HEIGHT", x.count(1), 0);
        x.ground(2, 8);
        due.is("22: WIDTH", x.count(0), 2);
        due.is("22: HEIGHT", x.count(1), 8);
    }

    private static void countCliffs() {
        GlacierYears x = new GlacierYears();
        for (int s = 0; s < 8; s++) x.strip(s, 0, 8);
        x.ground(8, 8);
        due.is("22: none", x.count(5), 0);
        for (int i = 0; i < 64; i++) {
            x.put(i / 8, i % 8, -1);
            due.is("7: how many", x.ground(8, 8), i + 1);
            due.is("22: as many", x.count(5), i + 1);
        }
        x.ground(2, 2);
        due.is("22: of this GROUND alone", x.count(5), 4);
    }

    private static void countStrips() {
        GlacierYears x = new GlacierYears();
        for (int s = 0; s < 8; s++) {
            x.strip(s, 2, s);
            due.is("22: STRIPS", x.count(6), s + 1);
            x.strip(s, 2, 9);
            x.strip(s, 1, s);
            due.is("22: made anew, as many", x.count(6), s + 1);
        }
        for (int s = 7; s >= 0; s--) {
            x.tear(s);
            x.tear(s);
            due.is("22: torn", x.count(6), s);
        }
    }
}
