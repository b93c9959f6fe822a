/** Each sentence of the document on the YEAR that names a boundary: what it does, in its order, and promises 13 to 15. */
public final class YearEdgesTest {
    private static final Due due = new Due("YearEdgesTest");

    public static void main(String[] args) {
        yearsAre1To60();
        aboveYear60();
        yearsWithoutGround();
        snowOfEachBand();
        snowOf0();
        noSnowOnCliffs();
        meltAsFarAsThereIsIce();
        meltFromTheTopLayerDown();
        meltLessItsShare();
        lakesMeltBeforeTheyFloat();
        lowerByD();
        anEighthOfTheThickness();
        fractionDropAndCapAreCut();
        theLesserOfCapAndThickness();
        steepHasItsOwnFraction();
        ofTheGroundAlone();
        toACliffTheThickness();
        givenFromTheTopLayerDown();
        asTheyAreThen();
        allIceOfLakes();
        backFiveTimes();
        backAtTheEnds();
        backForgetsBeforeAKind();
        backForgetsBeforeGroundIceAndTurn();
        backLeavesWhatIsTold();
        steadyIs1To60();
        steadyAbove60();
        steadyAsItStoodAhead();
        steadyYearsBetween();
        steadyOfAllCells();
        due.end();
    }

    /** Cell 0, 0 can give to the right alone; nothing comes back from there. */
    private static GlacierYears pair(int high, int low, int grains) {
        GlacierYears x = Grounds.of(new int[][] {{high, low}, {9999, 9999}});
        x.ice(0, 0, grains);
        return x;
    }

    /** "A YEAR is the next one: 1, then 2, up to 60." "n YEARS (1 .. 60) go by". */
    private static void yearsAre1To60() {
        GlacierYears x = Grounds.flat(2, 2, 0);
        due.is("22: the YEAR 0", x.count(2), 0);
        for (int n : Edge.beside(1, 60)) due.is("13: n " + n, x.years(n), Edge.OUTSIDE);
        due.is("13: none went by", x.count(2), 0);
        for (int year = 1; year <= 60; year++) due.is("13: the next one", x.years(1), year);
        for (int n = 1; n <= 60; n += 59) due.is("13: not above 60", x.years(n), Edge.FULL);
        due.is("13: 60", x.count(2), 60);
        for (int n = 1; n <= 60; n++) {
            x.ground(2, 2);
            due.is("13: n at once", x.years(n), n);
        }
        due.is("13: no failures", x.count(4), 0);
    }

    /** "FULL: it would be above 60 (none goes by)." */
    private static void aboveYear60() {
        for (int year = 1; year <= 60; year++) {
            GlacierYears x = Grounds.flat(2, 2, 0);
            x.tell(false, 0, 1);
            x.years(year);
            due.is("13: one above 60", x.years(61 - year), Edge.FULL);
            due.is("13: far above 60", x.years(60), Edge.FULL);
            due.is("13: OUTSIDE goes ahead of FULL", x.years(61), Edge.OUTSIDE);
            due.is("13: none goes by", x.count(2), year);
            due.is("13: no snow comes", x.cell(0, 0, 1), year);
            if (year < 60) due.is("13: to 60", x.years(60 - year), 60);
            due.is("13: 60 SNOWS", x.cell(1, 1, 1), 60);
        }
    }

    /** "STATE: there is no GROUND". */
    private static void yearsWithoutGround() {
        GlacierYears x = new GlacierYears();
        due.is("13: 1", x.years(1), Edge.STATE);
        due.is("13: 60", x.years(60), Edge.STATE);
        due.is("15: 1", x.steady(1), Edge.STATE);
        due.is("15: 60", x.steady(60), Edge.STATE);
        for (int n : Edge.beside(1, 60)) {
            due.is("13: OUTSIDE goes ahead of STATE, " + n, x.years(n), Edge.OUTSIDE);
            due.is("15: OUTSIDE goes ahead of STATE, " + n, x.steady(n), Edge.OUTSIDE);
        }
        due.is("22: no YEAR", x.count(2), 0);
        due.is("13: a GROUND of CLIFFS is one", x.ground(2, 2), 4);
        due.is("13: a GROUND of CLIFFS is one", x.years(60), 60);
    }

    /** "SNOW of its BAND comes to each cell, as grains of this YEAR." */
    private static void snowOfEachBand() {
        int[] levels = {0, 999, 1000, 1999, 2000, 8999, 9000, 9999};
        int[] bands = {0, 0, 1, 1, 2, 8, 9, 9};
        GlacierYears x = Grounds.of(new int[][] {levels, levels});
        for (int i = 0; i < 8; i++) x.ice(i, 0, 1000);
        for (int band = 0; band < 10; band++) x.tell(false, band, 99991 + band - (band == 9 ? 0 : 9));
        x.years(1);
        for (int i = 0; i < 8; i++) {
            long snow = bands[i] == 9 ? 100000 : 99982 + bands[i];
            due.is("13: LEVEL " + levels[i], x.cell(i, 1, 1), snow);
            due.is("13: not by the SURFACE", x.cell(i, 0, 1), 1000 + snow);
            due.is("13: of this YEAR", x.layer(i, 0, 0, 0), 1);
            due.is("13: of this YEAR", x.layer(i, 0, 0, 1), snow);
            due.is("13: the older below", x.layer(i, 0, 1, 0), 0);
        }
    }

    /** SNOW of 0 and of 1: no LAYER without grains. */
    private static void snowOf0() {
        GlacierYears x = Grounds.flat(2, 2, 0);
        x.years(1);
        due.is("13: no SNOW", x.cell(0, 0, 3), 0);
        x.tell(false, 0, 1);
        x.years(1);
        due.is("13: one grain", x.layer(0, 0, 0, 0), 2);
        x.tell(false, 0, 0);
        x.years(1);
        due.is("13: none more", x.cell(0, 0, 4), 2);
        due.is("18: came, of 1", x.sum(4, 1), 0);
        due.is("18: came, of 2", x.sum(4, 2), 4);
        due.is("18: came, of 3", x.sum(4, 3), 0);
    }

    /** "of all cells but CLIFFS". */
    private static void noSnowOnCliffs() {
        GlacierYears x = Grounds.of(new int[][] {{0, -1}, {-1, -1}});
        x.tell(false, 0, 7);
        x.tell(true, 0, 3);
        x.years(1);
        due.is("13: one cell alone", x.sum(4, 1), 7);
        due.is("13: one cell alone", x.sum(1, 1), 3);
        x.tear(0);
        x.ground(2, 2);
        x.years(60);
        due.is("13: CLIFFS alone", x.sum(4, Edge.NONE), 0);
    }

    /** "as far as there is ice". */
    private static void meltAsFarAsThereIsIce() {
        int[] melts = {0, 1, 49, 50, 51, 100000};
        for (int melt : melts) {
            GlacierYears x = Grounds.flat(2, 2, 0);
            x.ice(0, 0, 50);
            x.tell(true, 0, melt);
            x.years(1);
            due.is("13: MELT " + melt, x.cell(0, 0, 1), 50 - Math.min(melt, 50));
            due.is("13: MELTED", x.sum(1, 0), Math.min(melt, 50));
            due.is("13: a cell without ice", x.cell(1, 1, 1), 0);
            due.is("13: cells with ice", x.about(0), melt < 50 ? 1 : 0);
            x.tell(true, 0, 0);
            x.tell(false, 0, 1);
            x.years(1);
            due.is("13: nothing is owed", x.cell(1, 1, 1), 1);
        }
    }

    /** "is taken from each cell, from the top LAYER down": the SNOW of the YEAR first. */
    private static void meltFromTheTopLayerDown() {
        // LAYERS of 10 (YEAR 2), 10 (YEAR 1), 10 (YEAR 0) and then 10 of YEAR 3, less each of these.
        int[] melts = {9, 10, 11, 20, 21, 39, 40, 41};
        for (int melt : melts) {
            GlacierYears x = Grounds.flat(2, 2, 0);
            x.ice(0, 0, 10);
            x.tell(false, 0, 10);
            x.years(2);
            x.tell(true, 0, melt);
            x.years(1);
            for (int year = 3; year >= 0; year--) {
                long gone = Math.max(0, Math.min(10, melt - 10 * (3 - year)));
                long others = year == 0 ? 0 : 3 * gone;
                if (year >= 1) due.is("13: MELTED of " + year + ", " + melt, x.sum(1, year), gone + others);
                else due.is("13: MELTED of 0, " + melt, x.sum(1, 0), gone);
            }
            due.is("16: LAYERS left of " + melt, x.cell(0, 0, 3), (40 - Math.min(40, melt) + 9) / 10);
        }
    }

    /** All four cells are alike, so that no ice moves. */
    private static void share(int melt, int share, long want) {
        for (int kind = 0; kind <= 3; kind++) {
            GlacierYears x = Grounds.flat(2, 2, 0);
            for (int i = 0; i < 4; i++) {
                x.kind(i % 2, i / 2, kind, share);
                x.ice(i % 2, i / 2, 100000);
            }
            x.tell(true, 0, melt);
            x.years(1);
            String what = "13: MELT " + melt + ", SHARE " + share + ", KIND " + kind;
            long melted = kind >= 2 ? want : melt;
            due.is(what + ", MELTED", x.sum(1, 0), 4 * melted);
            due.is(what + ", is left", x.cell(1, 1, 1), kind == 3 ? 0 : 100000 - melted);
            due.is(what + ", FLOATED", x.sum(3, 0), kind == 3 ? 400000 - 4 * melted : 0);
        }
    }

    /** "of SHADED and LAKES the MELT less MELT times SHARE / 100 (cut)". */
    private static void meltLessItsShare() {
        share(0, 50, 0);
        share(1, 0, 1);
        share(1, 99, 1);
        share(1, 100, 0);
        share(2, 50, 1);
        share(3, 50, 2);
        share(99, 1, 99);
        share(100, 1, 99);
        share(101, 1, 100);
        share(199, 1, 198);
        share(10, 99, 1);
        share(100000, 0, 100000);
        share(100000, 1, 99000);
        share(99999, 99, 1000);
        share(100000, 99, 1000);
        share(100000, 100, 0);
    }

    private static void lakesMeltBeforeTheyFloat() {
        GlacierYears x = Grounds.flat(2, 2, 0);
        x.kind(1, 1, 3, 0);
        x.ice(1, 1, 10);
        x.tell(false, 0, 5);
        x.tell(true, 0, 7);
        x.years(1);
        due.is("13: MELTED of the SNOW", x.sum(1, 1), 20);
        due.is("13: MELTED below it", x.sum(1, 0), 2);
        due.is("13: FLOATED", x.sum(3, 0), 8);
        due.is("13: no SNOW floated", x.sum(3, 1), 0);
        x = Grounds.flat(2, 2, 0);
        x.kind(1, 1, 3, 0);
        x.tell(false, 0, 5);
        x.tell(true, 0, 5);
        x.years(1);
        due.is("13: all of it had melted", x.sum(3, Edge.NONE), 0);
    }

    private static void moves(String what, GlacierYears x, long want) {
        long had = x.cell(0, 0, 1);
        due.is("20: " + what, x.gives(0, 0, 1), want);
        x.years(1);
        due.is("13: " + what + ", came", x.cell(1, 0, 1), want);
        due.is("13: " + what + ", left", x.cell(0, 0, 1), had - want);
        due.is("13: " + what + ", all lies", x.sum(0, 0), had);
    }

    /** "with a SURFACE that is lower by D", "but D / 8 ... (cut) at most". */
    private static void lowerByD() {
        int[] drops = {-1000, -1, 0, 1, 7, 8, 9, 15, 16, 17, 79, 80};
        for (int d : drops) {
            GlacierYears x = pair(2000, 3000 - d, 1000);
            x.rule(100, 1000000);
            moves("D " + d, x, d < 0 ? 0 : d / 8);
        }
        // The ice of the other one counts, too: 1000 and 1000 of ice are D above 500 and the rest of ice.
        for (int d = 7; d <= 8; d++) {
            GlacierYears x = pair(1000, 500, 1000);
            x.ice(1, 0, 1500 - d);
            x.rule(100, 1000000);
            due.is("20: D by SURFACES " + d, x.gives(0, 0, 1), d / 8);
            due.is("20: nothing the other way", x.gives(1, 0, 3), 0);
        }
    }

    /** "of each cell with ice", "THICKNESS / 8 (cut) at most". */
    private static void anEighthOfTheThickness() {
        int[] grains = {0, 1, 7, 8, 9, 15, 16, 799, 800, 3999, 4000};
        for (int n : grains) {
            GlacierYears x = pair(5000, 0, n);
            x.rule(100, 1000000);
            moves("THICKNESS " + n, x, n / 8);
        }
        GlacierYears x = pair(9999, 0, 1000000);
        x.rule(100, 1000000);
        due.is("20: THICKNESS 1000000", x.gives(0, 0, 1), 125000);
    }

    /** "it F D m / 100 (cut) grains". */
    private static void fractionDropAndCapAreCut() {
        // D is 1000 + THICKNESS - 900, m is 1: F D / 100.
        int[][] cases = {{0, 100, 0}, {1, 100, 2}, {1, 99, 1}, {1, 101, 2}, {1, 199, 2}, {1, 200, 3}, {2, 149, 4}, {2, 150, 5}};
        for (int[] c : cases) {
            GlacierYears x = pair(1000, 900, c[1]);
            x.rule(c[0], 1);
            moves("F " + c[0] + ", THICKNESS " + c[1], x, c[2]);
        }
        // F D m of 99, 100: below and at one grain.
        GlacierYears x = pair(1000, 1001, 100);
        x.rule(1, 1);
        moves("F D m is 99", x, 0);
        x = pair(1000, 1000, 100);
        x.rule(1, 1);
        moves("F D m is 100", x, 1);
        // Each of the three is the least once: 12, 11, 10 grains.
        x = pair(1000, 1000, 100);
        x.rule(100, 1000);
        moves("THICKNESS / 8 is the least, with D / 8", x, 12);
        x = pair(1000, 1010, 100);
        x.rule(100, 1000);
        moves("D / 8 is the least", x, 11);
        x = pair(1000, 1000, 100);
        x.rule(10, 1);
        moves("F D m / 100 is the least", x, 10);
    }

    /** "m the lesser of THE CAP and the THICKNESS". */
    private static void theLesserOfCapAndThickness() {
        // THICKNESS 60, D 100: 1 * 100 * CAP / 100, up to 60 / 8.
        for (int cap = 1; cap <= 6; cap++) {
            GlacierYears x = pair(1040, 1000, 60);
            x.rule(1, cap);
            moves("CAP " + cap, x, cap);
        }
        // THICKNESS 8, so m is 8 with any greater CAP: 1 * 12 * 8 / 100 is 0, 1 * 13 * 8 / 100 is 1.
        for (int cap : new int[] {7, 8, 9, 1000000}) {
            GlacierYears x = pair(1004, 1000, 8);
            x.rule(1, cap);
            moves("THICKNESS 8, CAP " + cap, x, 0);
            x = pair(1005, 1000, 8);
            x.rule(1, cap);
            moves("D 13, CAP " + cap, x, cap >= 8 ? 1 : 0);
        }
    }

    /** "F being THE FRACTION (of a STEEP its own)". */
    private static void steepHasItsOwnFraction() {
        int[] fractions = {0, 1, 100};
        for (int own : fractions) {
            for (int common : fractions) {
                for (int kind = 0; kind <= 3; kind++) {
                    GlacierYears x = pair(1000, 1000, 800);
                    x.rule(common, 1);
                    x.kind(0, 0, kind, own);
                    x.kind(1, 0, 1, 50);
                    int f = kind == 1 ? own : common;
                    due.is("20: KIND " + kind + ", " + own + ", " + common, x.gives(0, 0, 1), Math.min(f * 800 / 100, 100));
                }
            }
        }
    }

    /** "each of its neighbours ... of the GROUND": nothing goes, or falls, over its rim. */
    private static void ofTheGroundAlone() {
        for (int size = 2; size <= 8; size += 6) {
            GlacierYears x = Grounds.flat(size, size, 9999);
            x.rule(100, 1000000);
            for (int i = 0; i < 4; i++) x.ice(i % 2 * (size - 1), i / 2 * (size - 1), 800);
            due.is("20: above", x.gives(0, 0, 0), 0);
            due.is("20: left", x.gives(0, 0, 3), 0);
            due.is("20: right", x.gives(size - 1, 0, 1), 0);
            due.is("20: below", x.gives(size - 1, size - 1, 2), 0);
            x.years(60);
            due.is("13: all lies", x.sum(0, 0), 3200);
            due.is("13: none has FALLEN", x.sum(2, Edge.NONE), 0);
        }
    }

    /** "To a CLIFF, D is the THICKNESS", "at a CLIFF it has FALLEN". */
    private static void toACliffTheThickness() {
        int[][] cases = {{100, 1000, 7, 0}, {100, 1000, 8, 1}, {100, 1000, 15, 1}, {100, 1000, 16, 2}, {1, 1000, 9, 0}, {1, 1000, 10, 1},
            {1, 1, 99, 0}, {1, 1, 100, 1}, {1, 1, 200, 2}, {0, 1000, 1000, 0}, {100, 1000000, 1000000, 125000}};
        for (int level = 0; level <= 9999; level += 9999) {
            for (int[] c : cases) {
                GlacierYears x = Grounds.pillar(level);
                x.rule(c[0], c[1]);
                x.ice(1, 1, c[2]);
                for (int side = 0; side < 4; side++) due.is("20: to a CLIFF", x.gives(1, 1, side), c[3]);
                x.years(1);
                due.is("13: has FALLEN", x.sum(2, 0), 4 * c[3]);
                due.is("13: is left", x.cell(1, 1, 1), c[2] - 4 * c[3]);
            }
        }
    }

    /** "taken from the top LAYER down, to the neighbours in that order". 816 / 8 = 102 to each. */
    private static void givenFromTheTopLayerDown() {
        int[] tops = {1, 101, 102, 103, 204, 205, 408, 409};
        for (int top : tops) {
            GlacierYears x = Grounds.of(new int[][] {{0, 0, 0}, {0, 9000, 0}, {0, 0, 0}});
            x.ice(1, 1, 816 - top);
            x.tell(false, 9, top);
            x.rule(100, 1000000);
            x.years(1);
            int[][] order = {{1, 0}, {2, 1}, {1, 2}, {0, 1}};
            for (int i = 0; i < 4; i++) {
                long ofTop = Math.max(0, Math.min(102, top - 102 * i));
                String what = "13: top " + top + ", neighbour " + i;
                due.is(what, x.cell(order[i][0], order[i][1], 1), 102);
                due.is(what + ", of YEAR 1", x.layer(order[i][0], order[i][1], 0, ofTop == 0 ? 0 : 1), ofTop);
                due.is(what + ", LAYERS", x.cell(order[i][0], order[i][1], 3), ofTop == 0 || ofTop == 102 ? 1 : 2);
            }
            due.is("13: left of YEAR 1, top " + top, x.cell(1, 1, 4), top > 408 ? 1 : 0);
            due.is("18: lies of YEAR 1", x.sum(0, 1), top);
            due.is("18: lies of YEAR 0", x.sum(0, 0), 816 - top);
        }
    }

    /** "ICE MOVES, all by SURFACES and THICKNESSES as they are then": behind SNOW and MELT, ahead of what moves. */
    private static void asTheyAreThen() {
        GlacierYears x = Grounds.of(new int[][] {{1000, 900}, {9000, 9000}});
        x.ice(0, 0, 1);
        x.tell(false, 1, 8);
        x.tell(true, 1, 1);
        x.rule(100, 1000);
        due.is("20: one grain gives none", x.gives(0, 0, 1), 0);
        x.years(1);
        due.is("13: 8 are there as ice moves", x.cell(1, 0, 1), 1);
        // A row of three: the middle is given 100, and gives 100 of its own.
        x = Grounds.of(new int[][] {{9000, 5000, 0}, {9999, 9999, 9999}});
        x.ice(0, 0, 800);
        x.ice(1, 0, 800);
        x.rule(100, 1000000);
        x.years(1);
        due.is("13: the first", x.cell(0, 0, 1), 700);
        due.is("13: the middle", x.cell(1, 0, 1), 800);
        due.is("13: the last", x.cell(2, 0, 1), 100);
        x = Grounds.of(new int[][] {{0, 5000, 9000}, {9999, 9999, 9999}});
        x.ice(2, 0, 800);
        x.rule(100, 1000000);
        x.years(1);
        due.is("13: no two steps in a YEAR", x.cell(0, 0, 1), 0);
        x.years(1);
        due.is("13: the next step", x.cell(0, 0, 1), 12);
    }

    /** "All ice of LAKES has FLOATED": told, SNOW and what came in the YEAR; ahead of it they give. */
    private static void allIceOfLakes() {
        for (int grains = 0; grains <= 2; grains++) {
            GlacierYears x = Grounds.flat(2, 2, 0);
            x.kind(0, 1, 3, 100);
            x.ice(0, 1, grains);
            due.is("13: it lies till a YEAR goes by", x.cell(0, 1, 1), grains);
            x.tell(false, 0, 3);
            x.years(1);
            due.is("13: none lies", x.cell(0, 1, 1), 0);
            due.is("13: no LAYER lies", x.cell(0, 1, 3), 0);
            due.is("13: FLOATED, of YEAR 0", x.sum(3, 0), grains);
            due.is("13: FLOATED, of YEAR 1", x.sum(3, 1), 3);
        }
        GlacierYears x = Grounds.of(new int[][] {{5000, -1}, {0, 9000}});
        x.kind(0, 0, 3, 0);
        x.ice(0, 0, 800);
        x.rule(100, 1000);
        x.years(1);
        due.is("13: a LAKE gives ahead of it", x.cell(0, 1, 1), 100);
        due.is("13: to a CLIFF, too", x.sum(2, 0), 100);
        due.is("13: the rest", x.sum(3, 0), 600);
        x.kind(0, 0, 0, 0);
        x.kind(0, 1, 3, 0);
        x.years(1);
        due.is("13: a CELL that was a LAKE", x.sum(3, 0), 700);
    }

    /** "STATE: the latest 5 were". */
    private static void backFiveTimes() {
        for (int gone = 1; gone <= 60; gone++) {
            GlacierYears x = Grounds.flat(2, 2, 0);
            x.tell(false, 0, 2);
            x.years(gone);
            int most = Math.min(gone, 5);
            due.is("22: of " + gone, x.count(3), most);
            for (int i = 1; i <= most; i++) {
                due.is("14: of " + gone, x.back(), gone - i);
                due.is("14: with all that it did", x.sum(4, Edge.NONE), 8 * (gone - i));
                due.is("14: with all that it did", x.cell(1, 1, 1), 2 * (gone - i));
                due.is("22: left", x.count(3), most - i);
            }
            for (int i = 0; i < 2; i++) due.is("14: no more of " + gone, x.back(), Edge.STATE);
            due.is("14: the YEAR stays", x.count(2), gone - most);
            due.is("14: the ice stays", x.cell(1, 1, 1), 2 * (gone - most));
        }
    }

    /** The YEARS 0 and 60. */
    private static void backAtTheEnds() {
        GlacierYears x = Grounds.flat(2, 2, 0);
        due.is("14: none went by", x.back(), Edge.STATE);
        due.is("14: the YEAR 0", x.count(2), 0);
        x.years(60);
        due.is("14: from 60", x.back(), 59);
        due.is("13: and again", x.years(1), 60);
        due.is("13: not above", x.years(1), Edge.FULL);
        due.is("14: a refused YEAR leaves what can be taken back", x.count(3), 5);
        x.ground(2, 2);
        x.years(1);
        due.is("14: to 0", x.back(), 0);
        due.is("14: not below", x.back(), Edge.STATE);
        x = new GlacierYears();
        due.is("14: no GROUND", x.back(), Edge.STATE);
        due.is("14: no failures", x.count(4), 0);
    }

    /** "or none went by since ... a KIND ... told": told, not refused; the same KIND, too. */
    private static void backForgetsBeforeAKind() {
        GlacierYears x = Grounds.of(new int[][] {{1, -1}, {1, 1}});
        x.years(6);
        x.kind(1, 0, 1, 1);
        x.kind(0, 0, 4, 1);
        x.kind(0, 0, 1, 101);
        x.kind(2, 0, 1, 1);
        x.taken(0, 0, 4, 0);
        due.is("22: what was refused forgets none", x.count(3), 5);
        due.is("8: the KIND it has", x.kind(0, 0, 0, 0), 0);
        due.is("22: none can be taken back", x.count(3), 0);
        due.is("14: none", x.back(), Edge.STATE);
        due.is("14: the YEAR stays", x.years(1), 7);
        due.is("14: the one since", x.back(), 6);
        due.is("14: but no more", x.back(), Edge.STATE);
    }

    private static void backForgetsBeforeGroundIceAndTurn() {
        GlacierYears x = Grounds.flat(2, 2, 0);
        x.years(1);
        due.is("12: refused in the YEAR 1", x.ice(0, 0, 1), Edge.STATE);
        due.is("14: what was refused forgets none", x.back(), 0);
        x.ice(0, 0, 1);
        due.is("14: none since ice", x.back(), Edge.STATE);
        x.years(2);
        x.ground(1, 2);
        due.is("14: what was refused forgets none", x.count(3), 2);
        x.ground(2, 2);
        due.is("14: none since the GROUND", x.back(), Edge.STATE);
        x.years(2);
        for (int how = 0; how <= 1; how++) {
            x.years(1);
            x.turn(2);
            due.is("21: what was refused forgets none", x.count(3) > 0 ? 1 : 0, 1);
            x.turn(how);
            due.is("21: none since the turn", x.back(), Edge.STATE);
            due.is("22: none", x.count(3), 0);
        }
    }

    /** "(What is told of SNOW, MELT, FRACTION, CAP stays.)" And telling it forgets none. */
    private static void backLeavesWhatIsTold() {
        GlacierYears x = pair(8000, 0, 1000);
        x.years(5);
        x.tell(false, 8, 70);
        x.tell(true, 8, 60);
        x.rule(1, 1);
        due.is("22: five yet", x.count(3), 5);
        x.back();
        due.is("14: FRACTION and CAP stay: 1 * 9000 * 1 / 100", x.gives(0, 0, 1), 90);
        due.is("14: CAP stays", x.rule(0, 1000), 1);
        due.is("14: SNOW stays", x.tell(false, 8, 0), 70);
        due.is("14: MELT stays", x.tell(true, 8, 0), 60);
        due.is("22: four yet", x.count(3), 4);
        x.strip(0, 0, 0);
        x.tear(1);
        x.back();
        due.is("14: STRIPS stay", x.at(0, 0, 0), Edge.INDEX);
        x.back();
        due.is("14: FAILURES stay", x.count(4), 1);
        due.is("14: STRIPS stay", x.count(6), 1);
    }

    /** "but n (1 .. 60) at most". */
    private static void steadyIs1To60() {
        GlacierYears x = Grounds.flat(2, 2, 0);
        for (int n : Edge.beside(1, 60)) due.is("15: n " + n, x.steady(n), Edge.OUTSIDE);
        due.is("15: none went by", x.count(2), 0);
        due.is("15: no failures", x.count(4), 0);
        x.tell(false, 0, 1);
        due.is("15: 1 at most", x.steady(1), 0);
        due.is("15: 1 went by", x.count(2), 1);
        due.is("15: 59 at most", x.steady(59), 0);
        due.is("15: 59 went by", x.count(2), 60);
        x.ground(2, 2);
        due.is("15: 60 at most", x.steady(60), 0);
        due.is("15: 60 went by", x.count(2), 60);
        due.is("15: five can be taken back", x.count(3), 5);
        due.is("14: back", x.back(), 59);
        due.is("14: its grains", x.cell(0, 0, 1), 59);
    }

    /** "FULL: the YEAR would be above 60 with n", though it came back before. */
    private static void steadyAbove60() {
        GlacierYears x = Grounds.flat(2, 2, 0);
        due.is("15: all 60 fit", x.steady(60), 1);
        due.is("15: 60 do not fit", x.steady(60), Edge.FULL);
        due.is("15: 59 fit", x.steady(59), 1);
        due.is("15: one went by", x.count(2), 2);
        x.years(57);
        due.is("15: 2 do not fit", x.steady(2), Edge.FULL);
        due.is("15: OUTSIDE goes ahead of FULL", x.steady(0), Edge.OUTSIDE);
        due.is("15: none went by", x.count(2), 59);
        due.is("15: 1 fits", x.steady(1), 1);
        due.is("15: in the YEAR 60", x.steady(1), Edge.FULL);
        x.back();
        due.is("15: taken back, it fits", x.steady(1), 1);
    }

    /** "or as it stood ahead of them": behind the first YEAR already. */
    private static void steadyAsItStoodAhead() {
        GlacierYears x = Grounds.flat(2, 2, 0);
        x.ice(0, 0, 5);
        due.is("15: nothing moves", x.steady(60), 1);
        due.is("15: one YEAR", x.count(2), 1);
        x = Grounds.flat(2, 2, 0);
        x.kind(0, 0, 3, 0);
        x.ice(0, 0, 5);
        due.is("15: it FLOATED, and stays so", x.steady(60), 1);
        due.is("15: two YEARS", x.count(2), 2);
        x = Grounds.of(new int[][] {{-1, -1}, {-1, -1}});
        due.is("15: CLIFFS alone", x.steady(60), 1);
    }

    /** One grain a YEAR; of 8, one falls to each of four CLIFFS: 1, 2, .. 7, 4, 5, 6, 7, 4 .. */
    private static GlacierYears dripping() {
        GlacierYears x = Grounds.pillar(0);
        x.tell(false, 0, 1);
        x.rule(100, 1000);
        return x;
    }

    /** "how many YEARS lie between; 0: they did not come back". */
    private static void steadyYearsBetween() {
        for (int n = 1; n <= 60; n++) {
            GlacierYears x = dripping();
            due.is("15: at most " + n, x.steady(n), n < 8 ? 0 : 4);
            due.is("15: the YEAR then", x.count(2), Math.min(n, 8));
            due.is("15: the THICKNESS then", x.cell(1, 1, 1), n < 8 ? n : 4);
        }
        // Only these YEARS count, and how it stood ahead of them.
        for (int ahead = 4; ahead <= 12; ahead++) {
            GlacierYears x = dripping();
            x.years(ahead);
            due.is("15: three are not enough, from " + ahead, x.steady(3), 0);
            due.is("15: nor are three more", x.steady(3), 0);
            due.is("15: four are, from " + ahead, x.steady(4), 4);
            due.is("15: the YEAR then", x.count(2), ahead + 10);
        }
        GlacierYears x = dripping();
        x.years(3);
        due.is("15: from 3, which does not come back", x.steady(4), 0);
        x = dripping();
        x.years(3);
        due.is("15: from 3: 4 is the first that does", x.steady(5), 4);
    }

    /** "THICKNESSES of all cells": one alone that differs is enough, be it the last one. */
    private static void steadyOfAllCells() {
        for (int i = 0; i < 4; i++) {
            GlacierYears x = Grounds.flat(2, 2, 0);
            int[][] levels = {{0, 0}, {0, 0}};
            levels[i / 2][i % 2] = 5000;
            Grounds.lay(x, levels);
            x.tell(false, 5, 1);
            due.is("15: cell " + i + " alone grows", x.steady(20), 0);
            due.is("15: 20 went by", x.count(2), 20);
        }
        // LAYERS change, THICKNESSES do not: the SNOW is as much as what FLOATED or FELL.
        GlacierYears x = dripping();
        x.years(4);
        due.is("15: from 4 to 4", x.steady(4), 4);
        due.is("15: of later YEARS now", x.cell(1, 1, 5), 1);
        due.is("15: other sums now", x.sum(2, Edge.NONE), 4);
    }
}
