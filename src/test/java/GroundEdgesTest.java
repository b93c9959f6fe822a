/** Each sentence of the document on THE GROUND, KINDS and what is TOLD that names a boundary: Terms, promises 7 to 12. */
public final class GroundEdgesTest {
    private static final Due due = new Due("GroundEdgesTest");

    public static void main(String[] args) {
        widthAndHeightAre2To8();
        refusedGroundKeepsTheOld();
        levelsAre0To9999();
        levelsOfEachLane();
        theStripIsMissingOrHasEnded();
        stripsBeyondTheHeight();
        asItIsLaid();
        placesOfTheGround();
        noGroundNoPlace();
        laidAnew();
        bandsAre0To9();
        kindsAre0To3();
        hundredthsAre0To100();
        ofACellNotLookedAt();
        theKindItHad();
        aCliffForGood();
        takenAsEachKind();
        takenNumbers();
        aFractionOrAShare();
        tellOfEachBand();
        tellGrains();
        ruleFraction();
        ruleCap();
        iceGrains();
        iceOfYear0Alone();
        iceIsCountedAsTold();
        due.end();
    }

    /** STRIPS 0 .. 7 of 8 ints each, all 0. */
    private static GlacierYears allStrips() {
        GlacierYears x = new GlacierYears();
        for (int s = 0; s < 8; s++) x.strip(s, 1, 8);
        return x;
    }

    /** A GROUND without CLIFFS, each LEVEL being 100 y and x. */
    private static GlacierYears numbered(int width, int height) {
        int[][] levels = new int[height][width];
        for (int i = 0; i < width * height; i++) levels[i / width][i % width] = 100 * (i / width) + i % width;
        return Grounds.of(levels);
    }

    /** "WIDTH (2 .. 8) by HEIGHT (2 .. 8)". */
    private static void widthAndHeightAre2To8() {
        GlacierYears x = allStrips();
        for (int width = 2; width <= 8; width++) {
            for (int height = 2; height <= 8; height++) {
                due.is("7: " + width + " by " + height, x.ground(width, height), 0);
                due.is("22: WIDTH", x.count(0), width);
                due.is("22: HEIGHT", x.count(1), height);
                due.is("7: the last cell", x.cell(width - 1, height - 1, 0), 0);
                due.is("7: beyond the WIDTH", x.cell(width, height - 1, 0), Edge.UNKNOWN);
                due.is("7: beyond the HEIGHT", x.cell(width - 1, height, 0), Edge.UNKNOWN);
            }
        }
    }

    private static void refusedGroundKeepsTheOld() {
        GlacierYears none = allStrips();
        GlacierYears x = numbered(4, 3);
        x.years(2);
        for (int side : new int[] {1, 0, -1, 9, 10, Edge.LEAST, Edge.MOST}) {
            due.is("7: WIDTH " + side, x.ground(side, 8), Edge.OUTSIDE);
            due.is("7: HEIGHT " + side, x.ground(8, side), Edge.OUTSIDE);
            due.is("7: both " + side, x.ground(side, side), Edge.OUTSIDE);
            due.is("7: no GROUND, WIDTH " + side, none.ground(side, 2), Edge.OUTSIDE);
            due.is("7: no GROUND, HEIGHT " + side, none.ground(2, side), Edge.OUTSIDE);
        }
        due.is("7: WIDTH as it was", x.count(0), 4);
        due.is("7: HEIGHT as it was", x.count(1), 3);
        due.is("7: a LEVEL as it was", x.cell(3, 2, 0), 203);
        due.is("7: the YEAR as it was", x.count(2), 2);
        due.is("7: YEARS can be taken back", x.count(3), 2);
        due.is("7: no failures", x.count(4), 0);
        due.is("7: still no GROUND", none.count(0), 0);
        due.is("7: still no GROUND", none.sum(0, 0), Edge.STATE);
    }

    private static void level(int lane, long number, long want) {
        GlacierYears x = new GlacierYears();
        x.strip(1, lane, 2);
        x.put(1, 1, number);
        due.is("7: CLIFFS with " + number, x.ground(2, 2), want < 0 ? 3 : 2);
        due.is("7: LEVEL of " + number + " in LANE " + lane, x.cell(1, 1, 0), want);
        due.is("7: the KIND of it", x.taken(1, 1, 0, 0), want < 0 ? 4 : 0);
        due.is("7: the cell beside it", x.cell(0, 1, 0), 0);
    }

    /** "the number is not 0 .. 9999". */
    private static void levelsAre0To9999() {
        for (int lane = 0; lane <= 2; lane++) {
            level(lane, 0, 0);
            level(lane, 1, 1);
            level(lane, 9998, 9998);
            level(lane, 9999, 9999);
            level(lane, 10000, Edge.STATE);
            level(lane, 10001, Edge.STATE);
            level(lane, -1, Edge.STATE);
            level(lane, -9999, Edge.STATE);
            level(lane, 32767, Edge.STATE);
        }
    }

    /** What a LANE cut is laid as it was cut; what it did not cut is not cut as it is laid. */
    private static void levelsOfEachLane() {
        level(0, 65536, 0);
        level(1, 65536, Edge.STATE);
        level(2, 65536, Edge.STATE);
        level(0, 65536 + 9999, 9999);
        level(0, 40000, Edge.STATE);
        level(0, 4294967296L + 5, 5);
        level(1, 4294967296L + 5, 5);
        level(2, 4294967296L + 5, Edge.STATE);
        level(1, 2147483648L, Edge.STATE);
        level(1, Long.MIN_VALUE, 0);
        level(2, Long.MIN_VALUE, Edge.STATE);
        level(1, Long.MAX_VALUE, Edge.STATE);
        level(2, Long.MAX_VALUE, Edge.STATE);
    }

    /** "where the STRIP is MISSING, or has ended". */
    private static void theStripIsMissingOrHasEnded() {
        for (int n = 0; n <= 8; n++) {
            GlacierYears x = new GlacierYears();
            x.strip(0, 1, n);
            x.strip(1, 1, 8);
            x.tear(1);
            due.is("7: CLIFFS with " + n, x.ground(5, 2), 5 - Math.min(n, 5) + 5);
            for (int i = 0; i < 5; i++) {
                due.is("7: " + n + " places, x " + i, x.cell(i, 0, 0), i < n ? 0 : Edge.STATE);
                due.is("7: of a torn STRIP", x.cell(i, 1, 0), Edge.STATE);
            }
        }
        GlacierYears x = new GlacierYears();
        x.strip(0, 1, 8);
        for (int i = 0; i < 8; i++) x.put(0, i, 5);
        x.strip(0, 1, 2);
        due.is("7: what a longer one held is gone", x.ground(8, 2), 6 + 8);
    }

    private static void stripsBeyondTheHeight() {
        GlacierYears x = allStrips();
        for (int s = 0; s < 8; s++) x.put(s, s, -1);
        due.is("7: 2 by 2", x.ground(2, 2), 2);
        due.is("7: 8 by 2", x.ground(8, 2), 2);
        due.is("7: 2 by 8", x.ground(2, 8), 2);
        due.is("7: 8 by 8", x.ground(8, 8), 8);
        due.is("7: STRIP 7, place 7", x.cell(7, 7, 0), Edge.STATE);
        due.is("7: STRIP 7, place 6", x.cell(6, 7, 0), 0);
    }

    /** "As it is laid": a STRIP that changes later changes no GROUND. */
    private static void asItIsLaid() {
        GlacierYears x = numbered(3, 3);
        x.put(0, 1, 9999);
        x.strip(1, 0, 0);
        x.tear(2);
        for (int i = 0; i < 9; i++) due.is("7: as it was laid", x.cell(i % 3, i / 3, 0), 100 * (i / 3) + i % 3);
        due.is("7: laid anew", x.ground(3, 3), 6);
        due.is("7: laid anew", x.cell(1, 0, 0), 9999);
    }

    /** "no such place x, y of the GROUND": one ahead of the first, one behind the last, and the two not mixed up. */
    private static void placesOfTheGround() {
        GlacierYears x = numbered(3, 5);
        int[][] none = {{-1, 0}, {0, -1}, {3, 0}, {0, 5}, {3, 4}, {2, 5}, {4, 2}, {-1, 4}, {2, -1}, {8, 0}, {0, 8}, {-1, 1}, {11, 0},
            {Edge.LEAST, 0}, {0, Edge.LEAST}, {Edge.MOST, 0}, {0, Edge.MOST}, {Edge.MOST, Edge.MOST}, {Edge.LEAST, Edge.LEAST},
            {536870912, 0}, {0, 536870912}};
        for (int[] p : none) noPlace(x, p[0], p[1]);
        due.is("UNKNOWN is no failure", x.count(4), 0);
        for (int i = 0; i < 15; i++) due.is("16: a place", x.cell(i % 3, i / 3, 0), 100 * (i / 3) + i % 3);
        due.is("8: the last place", x.kind(2, 4, 1, 7), 0);
        due.is("9: the last place", x.taken(2, 4, 1, 1), 7);
        due.is("12: the last place", x.ice(2, 4, 9), 9);
        due.is("17: the last place", x.layer(2, 4, 0, 1), 9);
        due.is("20: the last place", x.gives(2, 4, 0), 1);
    }

    private static void noPlace(GlacierYears x, int px, int py) {
        String at = px + ", " + py;
        due.is("8: " + at, x.kind(px, py, 1, 1), Edge.UNKNOWN);
        due.is("9: " + at, x.taken(px, py, 0, 0), Edge.UNKNOWN);
        due.is("12: " + at, x.ice(px, py, 1), Edge.UNKNOWN);
        due.is("16: " + at, x.cell(px, py, 0), Edge.UNKNOWN);
        due.is("17: " + at, x.layer(px, py, 0, 0), Edge.UNKNOWN);
        due.is("20: " + at, x.gives(px, py, 0), Edge.UNKNOWN);
    }

    private static void noGroundNoPlace() {
        GlacierYears x = allStrips();
        for (int i = -1; i <= 8; i++) noPlace(x, i, i);
        noPlace(x, 0, 1);
        noPlace(x, 1, 0);
        due.is("UNKNOWN is no failure", x.count(4), 0);
    }

    /** "laid anew, without ice, all sums 0, the YEAR 0: how many CLIFFS. (SNOW, MELT, FRACTION, CAP stay.)" */
    private static void laidAnew() {
        GlacierYears x = Grounds.of(new int[][] {{3500, 500, -1}, {3100, 9, 9}});
        x.kind(0, 0, 1, 50);
        x.kind(1, 0, 3, 25);
        x.ice(0, 0, 900);
        for (int band = 0; band < 10; band++) {
            x.tell(false, band, 10 + band);
            x.tell(true, band, band);
        }
        x.rule(7, 70);
        x.years(6);
        x.at(0, 0, 0);
        due.is("7: how many CLIFFS", x.ground(3, 2), 1);
        for (int what = 0; what <= 4; what++) {
            for (int year = 0; year <= 60; year++) due.is("7: all sums 0", x.sum(what, year), 0);
            due.is("7: all sums 0", x.sum(what, Edge.NONE), 0);
        }
        due.is("7: without ice", x.about(0), 0);
        due.is("7: the YEAR 0", x.count(2), 0);
        due.is("7: none can be taken back", x.count(3), 0);
        due.is("7: none can be taken back", x.back(), Edge.STATE);
        due.is("7: FAILURES stay", x.count(4), 1);
        due.is("7: STRIPS stay", x.count(6), 2);
        for (int i = 0; i <= 1; i++) {
            due.is("7: the KIND 0", x.taken(i, 0, 0, 0), 0);
            due.is("9: no FRACTION, no SHARE", x.taken(i, 0, 0, 1), 0);
            due.is("16: no THICKNESS", x.cell(i, 0, 1), 0);
            due.is("16: no LAYERS", x.cell(i, 0, 3), 0);
            due.is("17: no LAYER", x.layer(i, 0, 0, 1), Edge.NONE);
        }
        x.ice(0, 0, 800);
        due.is("7: the FRACTION and the CAP stay: more than 100", x.gives(0, 0, 1), 100);
        due.is("11: the CAP that was", x.rule(7, 1), 70);
        for (int band = 0; band < 10; band++) {
            due.is("7: SNOW stays", x.tell(false, band, 0), 10 + band);
            due.is("7: MELT stays", x.tell(true, band, 0), band);
        }
        x.tear(1);
        due.is("7: a CELL may become a CLIFF", x.ground(3, 2), 4);
        x.put(0, 2, 8);
        due.is("7: a CLIFF may become a CELL", x.ground(3, 2), 3);
        due.is("16: it has no ice", x.cell(2, 0, 1), 0);
    }

    /** "BAND: LEVEL / 1000 (cut), 0 .. 9", ice or none. */
    private static void bandsAre0To9() {
        GlacierYears x = Grounds.of(new int[][] {{0, 1, 999, 1000, 1001, 1999, 2000, 4999}, {5000, 5001, 8999, 9000, 9001, 9998, 9999, 7777}});
        long[] bands = {0, 0, 0, 1, 1, 1, 2, 4, 5, 5, 8, 9, 9, 9, 9, 7};
        for (int i = 0; i < 16; i++) {
            due.is("16: BAND of place " + i, x.cell(i % 8, i / 8, 6), bands[i]);
            x.ice(i % 8, i / 8, 1000000);
            due.is("16: not of the SURFACE", x.cell(i % 8, i / 8, 6), bands[i]);
        }
    }

    /** "A cell becomes one of a KIND 0 .. 3". */
    private static void kindsAre0To3() {
        GlacierYears x = numbered(2, 2);
        for (int kind : Edge.beside(0, 3)) {
            due.is("8: KIND " + kind, x.kind(1, 1, kind, 0), Edge.OUTSIDE);
            due.is("8: as it was", x.taken(1, 1, 0, 0), 0);
        }
        for (int kind = 0; kind <= 3; kind++) {
            x.kind(1, 1, kind, 5);
            due.is("8: KIND " + kind, x.taken(1, 1, kind, 0), kind);
        }
        due.is("8: no failures", x.count(4), 0);
    }

    /** "with a FRACTION or SHARE (0 .. 100". */
    private static void hundredthsAre0To100() {
        GlacierYears x = numbered(2, 2);
        for (int kind = 1; kind <= 3; kind++) {
            x.kind(0, 1, kind, 44);
            for (int hundredths : Edge.beside(0, 100)) {
                due.is("8: " + hundredths, x.kind(0, 1, kind, hundredths), Edge.OUTSIDE);
                due.is("8: as it was", x.taken(0, 1, kind, 1), 44);
            }
            due.is("8: 0", x.kind(0, 1, kind, 0), kind);
            due.is("8: 0", x.taken(0, 1, kind, 1), 0);
            due.is("8: 100", x.kind(0, 1, kind, 100), kind);
            due.is("8: 100", x.taken(0, 1, kind, 1), 100);
        }
    }

    /** "of a CELL not looked at". */
    private static void ofACellNotLookedAt() {
        GlacierYears x = numbered(2, 2);
        for (int hundredths : Edge.beside(0, 100)) {
            x.kind(0, 0, 1, 66);
            due.is("8: a CELL with " + hundredths, x.kind(0, 0, 0, hundredths), 1);
            due.is("9: a CELL has 0", x.taken(0, 0, 0, 1), 0);
            due.is("8: KIND 4 is OUTSIDE with any", x.kind(0, 0, 4, hundredths), Edge.OUTSIDE);
        }
    }

    /** ": the KIND it had", from each to each. */
    private static void theKindItHad() {
        GlacierYears x = numbered(2, 2);
        for (int had = 0; had <= 3; had++) {
            for (int kind = 0; kind <= 3; kind++) {
                x.kind(1, 0, had, 10);
                due.is("8: from " + had + " to " + kind, x.kind(1, 0, kind, 20), had);
                due.is("9: now", x.taken(1, 0, 0, 0), kind);
                due.is("9: its own", x.taken(1, 0, kind, 1), kind == 0 ? 0 : 20);
            }
        }
        for (int i = 0; i < 4; i++) due.is("8: this one alone", x.taken(i % 2, i / 2, 0, 0), i == 1 ? 3 : 0);
    }

    /** "4 CLIFF (for good: it has no LEVEL, no ice)". */
    private static void aCliffForGood() {
        GlacierYears x = Grounds.of(new int[][] {{5, -1}, {5, 5}});
        for (int kind = 0; kind <= 3; kind++) due.is("8: a CLIFF to " + kind, x.kind(1, 0, kind, 1), Edge.STATE);
        due.is("8: OUTSIDE goes ahead of STATE", x.kind(1, 0, 4, 1), Edge.OUTSIDE);
        due.is("8: OUTSIDE goes ahead of STATE", x.kind(1, 0, 1, 101), Edge.OUTSIDE);
        due.is("8: a CELL's is not looked at", x.kind(1, 0, 0, 101), Edge.STATE);
        due.is("12: no ice", x.ice(1, 0, 0), Edge.STATE);
        due.is("12: OUTSIDE goes ahead of STATE", x.ice(1, 0, 1000001), Edge.OUTSIDE);
        due.is("9: it is a CLIFF", x.taken(1, 0, 4, 0), 4);
        due.is("22: one CLIFF", x.count(5), 1);
        due.is("no failures", x.count(4), 0);
    }

    /** "SHADED: also a LAKE; STEEP: also a CLIFF; CELL: any". Each row: what one KIND is taken as. */
    private static void takenAsEachKind() {
        String[] as = {"0", "01", "02", "023", "014"};
        GlacierYears x = Grounds.of(new int[][] {{1, 1, 1, 1, -1}, {1, 1, 1, 1, 1}});
        for (int kind = 1; kind <= 3; kind++) x.kind(kind, 0, kind, kind);
        int casts = 0;
        for (int kind = 0; kind <= 4; kind++) {
            for (int asked = 0; asked <= 4; asked++) {
                boolean is = as[kind].indexOf('0' + asked) >= 0;
                due.is("9: " + kind + " as " + asked, x.taken(kind, 0, asked, 0), is ? kind : Edge.CAST);
                if (!is) casts++;
                due.is("9: CAST is counted", x.count(4), casts);
            }
        }
    }

    /** "UNKNOWN; OUTSIDE: kind, what; CAST." */
    private static void takenNumbers() {
        GlacierYears x = numbered(2, 3);
        for (int kind : Edge.beside(0, 4)) {
            due.is("9: KIND " + kind, x.taken(1, 2, kind, 0), Edge.OUTSIDE);
            due.is("9: UNKNOWN goes ahead", x.taken(2, 2, kind, 0), Edge.UNKNOWN);
        }
        for (int what : Edge.beside(0, 1)) {
            due.is("9: what " + what, x.taken(1, 2, 0, what), Edge.OUTSIDE);
            due.is("9: OUTSIDE goes ahead of CAST", x.taken(1, 2, 4, what), Edge.OUTSIDE);
            due.is("9: UNKNOWN goes ahead", x.taken(1, 3, 0, what), Edge.UNKNOWN);
        }
        due.is("9: no failures", x.count(4), 0);
    }

    /** "its FRACTION or SHARE 1 (of a CELL, CLIFF 0)". */
    private static void aFractionOrAShare() {
        GlacierYears x = Grounds.of(new int[][] {{1, 1, 1, 1, -1}, {1, 1, 1, 1, 1}});
        x.rule(99, 9);
        for (int kind = 0; kind <= 3; kind++) x.kind(kind, 0, kind, 100 - kind);
        long[] want = {0, 99, 98, 97, 0};
        for (int kind = 0; kind <= 4; kind++) {
            due.is("9: as a CELL", x.taken(kind, 0, 0, 1), want[kind]);
            due.is("9: as its own KIND", x.taken(kind, 0, kind, 1), want[kind]);
        }
        due.is("9: a LAKE as SHADED", x.taken(3, 0, 2, 1), 97);
        due.is("9: a CLIFF as STEEP", x.taken(4, 0, 1, 1), 0);
        due.is("9: CAST with what 1, too", x.taken(2, 0, 3, 1), Edge.CAST);
    }

    /** "band (0 .. 9)"; each BAND has its own SNOW and its own MELT. */
    private static void tellOfEachBand() {
        GlacierYears x = new GlacierYears();
        for (int band : Edge.beside(0, 9)) {
            due.is("10: SNOW of BAND " + band, x.tell(false, band, 5), Edge.OUTSIDE);
            due.is("10: MELT of BAND " + band, x.tell(true, band, 5), Edge.OUTSIDE);
            due.is("10: both wrong", x.tell(true, band, -1), Edge.OUTSIDE);
        }
        for (int band = 0; band <= 9; band++) {
            due.is("10: SNOW is 0 at first", x.tell(false, band, 100 + band), 0);
            due.is("10: MELT is 0 at first", x.tell(true, band, 200 + band), 0);
        }
        for (int band = 0; band <= 9; band++) {
            due.is("10: SNOW was", x.tell(false, band, 0), 100 + band);
            due.is("10: MELT was", x.tell(true, band, 0), 200 + band);
        }
        due.is("10: no failures", x.count(4), 0);
    }

    /** "SNOW and MELT (0 .. 100000 each)". */
    private static void tellGrains() {
        GlacierYears x = new GlacierYears();
        for (int i = 0; i <= 1; i++) {
            boolean melt = i == 1;
            due.is("10: 1", x.tell(melt, 9, 1), 0);
            for (int grains : Edge.beside(0, 100000)) due.is("10: " + grains, x.tell(melt, 9, grains), Edge.OUTSIDE);
            due.is("10: 0", x.tell(melt, 9, 0), 1);
            due.is("10: 100000", x.tell(melt, 9, 100000), 0);
            due.is("10: 99999", x.tell(melt, 9, 99999), 100000);
            due.is("10: the same again", x.tell(melt, 9, 99999), 99999);
        }
    }

    /** 1000 grains beside a much lower cell, so that what it gives tells THE FRACTION: D is 9000, THE CAP 1. */
    private static GlacierYears slope() {
        GlacierYears x = Grounds.of(new int[][] {{8000, 0}, {9999, 9999}});
        x.ice(0, 0, 1000);
        return x;
    }

    /** "THE FRACTION (0 .. 100, in hundredths)", 0 at first. */
    private static void ruleFraction() {
        GlacierYears x = slope();
        due.is("11: 0 at first", x.gives(0, 0, 1), 0);
        due.is("11: 1", x.rule(1, 1), 1000);
        due.is("11: 1 * 9000 * 1 / 100", x.gives(0, 0, 1), 90);
        for (int fraction : Edge.beside(0, 100)) {
            due.is("11: " + fraction, x.rule(fraction, 1000000), Edge.OUTSIDE);
            due.is("11: as it was", x.gives(0, 0, 1), 90);
        }
        due.is("11: THE CAP as it was", x.rule(0, 1), 1);
        due.is("11: 0", x.gives(0, 0, 1), 0);
        due.is("11: 100", x.rule(100, 1), 1);
        due.is("11: 1000 / 8", x.gives(0, 0, 1), 125);
        due.is("11: no failures", x.count(4), 0);
    }

    /** "THE CAP (1 .. 1000000; 1000 at first)". */
    private static void ruleCap() {
        GlacierYears x = slope();
        due.is("11: 1000 at first", x.rule(1, 1000000), 1000);
        for (int cap : Edge.beside(1, 1000000)) {
            due.is("11: CAP " + cap, x.rule(0, cap), Edge.OUTSIDE);
            due.is("11: both wrong", x.rule(101, cap), Edge.OUTSIDE);
            due.is("11: THE FRACTION as it was", x.gives(0, 0, 1), 125);
        }
        due.is("11: 1000000", x.rule(1, 999999), 1000000);
        due.is("11: 999999", x.rule(1, 1), 999999);
        due.is("11: 1", x.rule(1, 2), 1);
        due.is("11: 2", x.rule(1, 2), 2);
        due.is("11: the same again", x.rule(0, 1), 2);
        due.is("11: no GROUND is needed", new GlacierYears().rule(100, 1000000), 1000);
    }

    /** "OUTSIDE: grains (0 .. 1000000)". */
    private static void iceGrains() {
        GlacierYears x = numbered(3, 2);
        for (int grains : Edge.beside(0, 1000000)) due.is("12: " + grains, x.ice(2, 1, grains), Edge.OUTSIDE);
        due.is("12: none came", x.sum(4, 0), 0);
        due.is("12: 0", x.ice(2, 1, 0), 0);
        due.is("12: 0 is no ice", x.about(0), 0);
        due.is("12: 1", x.ice(2, 1, 1), 1);
        due.is("12: 1000000", x.ice(2, 1, 1000000), 1000001);
        due.is("12: 0 more", x.ice(2, 1, 0), 1000001);
        due.is("16: its SURFACE", x.cell(2, 1, 2), 1000001 + 102);
        due.is("12: UNKNOWN goes ahead of OUTSIDE", x.ice(2, 2, -1), Edge.UNKNOWN);
        due.is("12: no failures", x.count(4), 0);
    }

    /** "STATE: it is a CLIFF, or the YEAR is not 0." */
    private static void iceOfYear0Alone() {
        GlacierYears x = numbered(2, 2);
        due.is("12: in the YEAR 0", x.ice(0, 0, 5), 5);
        x.years(1);
        for (int grains : new int[] {0, 1, 1000000}) due.is("12: in the YEAR 1", x.ice(0, 0, grains), Edge.STATE);
        due.is("12: OUTSIDE goes ahead of STATE", x.ice(0, 0, -1), Edge.OUTSIDE);
        x.back();
        due.is("12: in the YEAR 0 again", x.ice(0, 0, 5), 10);
        x.years(60);
        due.is("12: in the YEAR 60", x.ice(0, 0, 5), Edge.STATE);
        x.turn(0);
        due.is("12: turned, the YEAR stays", x.ice(0, 0, 5), Edge.STATE);
        x.ground(2, 2);
        due.is("12: laid anew", x.ice(0, 0, 5), 5);
        x.turn(0);
        due.is("12: turned in the YEAR 0", x.ice(1, 0, 5), 10);
    }

    /** "Ice of YEAR 0 comes to a cell: its THICKNESS. (It is counted as told.)" */
    private static void iceIsCountedAsTold() {
        GlacierYears x = numbered(2, 2);
        for (int kind = 0; kind <= 3; kind++) {
            x.kind(kind % 2, kind / 2, kind, 50);
            due.is("12: to KIND " + kind, x.ice(kind % 2, kind / 2, 10 + kind), 10 + kind);
        }
        due.is("18: came, of YEAR 0", x.sum(4, 0), 46);
        due.is("18: came, of YEAR 1", x.sum(4, 1), 0);
        due.is("18: came, of all", x.sum(4, Edge.NONE), 46);
        due.is("18: lies", x.sum(0, 0), 46);
        due.is("16: one LAYER", x.cell(0, 0, 3), 1);
        due.is("16: of YEAR 0", x.cell(0, 0, 4), 0);
        due.is("16: of YEAR 0", x.cell(0, 0, 5), 0);
    }
}
