/** Each sentence of the document on STRIPS that names a boundary: the Terms, and promises 1 to 6. */
public final class StripEdgesTest {
    private static final Due due = new Due("StripEdgesTest");

    public static void main(String[] args) {
        thereAreStrips0To7();
        allAreMissingAtFirst();
        lanesAre0To2();
        rowsOf0To8();
        aStripOfNoPlace();
        aStripOf8();
        allNumbersAre0();
        lowestBitsOfShorts();
        lowestBitsOfInts();
        lowestBitsOfLongs();
        eachFailureIsCounted();
        whatLooksLikeAFailure();
        tearTellsWhetherItWasMissing();
        tornForgetsItsLane();
        putNamesPlaces();
        atIsOfItsLane();
        copyOfNone();
        copyOfAll();
        copyBeyondEither();
        copyAsTheyWereAhead();
        copyOfUnlikeLanes();
        copyFromAndToMissing();
        due.end();
    }

    private static GlacierYears with(int strip, int lane, int n) {
        GlacierYears x = new GlacierYears();
        x.strip(strip, lane, n);
        return x;
    }

    /** "UNKNOWN (there is no such STRIP 0 .. 7". */
    private static void thereAreStrips0To7() {
        GlacierYears x = with(0, 1, 8);
        for (int s : Edge.NO_STRIPS) {
            due.is("2: STRIP " + s, x.strip(s, 0, 1), Edge.UNKNOWN);
            due.is("3: STRIP " + s, x.tear(s), Edge.UNKNOWN);
            due.is("4: STRIP " + s, x.put(s, 0, 1), Edge.UNKNOWN);
            due.is("5: STRIP " + s, x.at(s, 1, 0), Edge.UNKNOWN);
            due.is("6: from STRIP " + s, x.copy(s, 0, 0, 0, 1), Edge.UNKNOWN);
            due.is("6: to STRIP " + s, x.copy(0, 0, s, 0, 1), Edge.UNKNOWN);
            due.is("6: from and to STRIP " + s, x.copy(s, 0, s, 0, 0), Edge.UNKNOWN);
        }
        due.is("UNKNOWN is no failure", x.count(4), 0);
        due.is("and makes no STRIP", x.count(6), 1);
        for (int s = 0; s <= 7; s++) {
            due.is("2: STRIP " + s, x.strip(s, 1, 1), 1);
            due.is("4: STRIP " + s, x.put(s, 0, 50 + s), 1);
        }
        for (int s = 0; s <= 7; s++) due.is("5: STRIP " + s + " is its own", x.at(s, 1, 0), 50 + s);
        due.is("6: from 7 to 0", x.copy(7, 0, 0, 0, 1), 1);
        due.is("6: from 7 to 0", x.at(0, 1, 0), 57);
        for (int s = 0; s <= 7; s++) due.is("3: STRIP " + s, x.tear(s), 0);
    }

    /** "All STRIPS are MISSING, there is no GROUND." */
    private static void allAreMissingAtFirst() {
        GlacierYears x = new GlacierYears();
        due.is("1: STRIPS", x.count(6), 0);
        for (int s = 0; s <= 7; s++) {
            due.is("1: at", x.at(s, 0, 0), Edge.NULL);
            due.is("1: put", x.put(s, 0, 1), Edge.NULL);
            due.is("1: copy", x.copy(s, 0, s, 0, 0), Edge.NULL);
        }
        due.is("1: years", x.years(1), Edge.STATE);
        due.is("1: steady", x.steady(1), Edge.STATE);
        due.is("1: back", x.back(), Edge.STATE);
        due.is("1: turn", x.turn(0), Edge.STATE);
        due.is("1: sum", x.sum(0, 0), Edge.STATE);
        due.is("1: about", x.about(0), Edge.STATE);
        due.is("1: cell", x.cell(0, 0, 0), Edge.UNKNOWN);
        due.is("1: WIDTH", x.count(0), 0);
        due.is("1: HEIGHT", x.count(1), 0);
        due.is("1: CLIFFS", x.count(5), 0);
        GlacierYears other = with(3, 1, 4);
        x = new GlacierYears();
        due.is("1: objects do not share STRIPS", x.count(6), 0);
        due.is("1: objects do not share FAILURES", other.count(4), 0);
    }

    /** "a LANE: 0 shorts, 1 ints, 2 longs", "OUTSIDE: lane". */
    private static void lanesAre0To2() {
        GlacierYears x = with(0, 1, 2);
        for (int lane : Edge.beside(0, 2)) {
            due.is("2: lane " + lane, x.strip(0, lane, 1), Edge.OUTSIDE);
            due.is("5: lane " + lane, x.at(0, lane, 0), Edge.OUTSIDE);
        }
        due.is("OUTSIDE is no failure", x.count(4), 0);
        due.is("2: as it was", x.at(0, 1, 1), 0);
        for (int lane = 0; lane <= 2; lane++) {
            due.is("2: lane " + lane, x.strip(0, lane, 1), 1);
            due.is("5: lane " + lane, x.at(0, lane, 0), 0);
        }
    }

    /** "rows of 0 .. 8 whole numbers", "OUTSIDE: n above 8; SIZE" (below 0). */
    private static void rowsOf0To8() {
        GlacierYears x = new GlacierYears();
        for (int n = 0; n <= 8; n++) due.is("2: n " + n, x.strip(0, 2, n), n);
        for (int n : Edge.above(8)) due.is("2: n " + n, x.strip(0, 2, n), Edge.OUTSIDE);
        due.is("2: above 8 is no failure", x.count(4), 0);
        for (int n : Edge.below(0)) due.is("2: n " + n, x.strip(0, 2, n), Edge.SIZE);
        due.is("2: below 0 is one", x.count(4), 4);
        due.is("2: still of 8", x.at(0, 2, 7), 0);
        due.is("2: no place behind", x.at(0, 2, 8), Edge.INDEX);
        x = new GlacierYears();
        due.is("2: SIZE of a MISSING one", x.strip(4, 0, -1), Edge.SIZE);
        due.is("2: n above 8 of a MISSING one", x.strip(4, 0, 9), Edge.OUTSIDE);
        due.is("2: it is still MISSING", x.tear(4), 1);
    }

    /** A row of 0 places is a row: it is not MISSING. */
    private static void aStripOfNoPlace() {
        GlacierYears x = with(2, 0, 0);
        due.is("2: it is there", x.count(6), 1);
        due.is("4: no place 0", x.put(2, 0, 1), Edge.INDEX);
        due.is("5: no place 0", x.at(2, 0, 0), Edge.INDEX);
        due.is("5: of another LANE", x.at(2, 1, 0), Edge.CAST);
        due.is("6: none of none", x.copy(2, 0, 2, 0, 0), 0);
        due.is("6: one of none", x.copy(2, 0, 2, 0, 1), Edge.INDEX);
        due.is("7: a CLIFF in each place", x.ground(2, 3), 6);
        due.is("3: it was there", x.tear(2), 0);
    }

    /** The last place, and the one behind it. */
    private static void aStripOf8() {
        GlacierYears x = with(2, 1, 8);
        for (int i = 0; i <= 7; i++) due.is("4: place " + i, x.put(2, i, i + 1), 1);
        for (int i : Edge.beside(0, 7)) {
            due.is("4: place " + i, x.put(2, i, 99), Edge.INDEX);
            due.is("5: place " + i, x.at(2, 1, i), Edge.INDEX);
        }
        for (int i = 0; i <= 7; i++) due.is("5: place " + i, x.at(2, 1, i), i + 1);
        due.is("4, 5: counted", x.count(4), 12);
    }

    /** "A STRIP is a row of n numbers 0": what stood there before is gone, in shorter and longer rows, too. */
    private static void allNumbersAre0() {
        for (int first = 0; first <= 2; first++) {
            for (int second = 0; second <= 2; second++) {
                GlacierYears x = with(1, first, 8);
                for (int i = 0; i < 8; i++) x.put(1, i, -1);
                x.strip(1, second, 3);
                for (int i = 0; i < 3; i++) due.is("2: 0 of 3", x.at(1, second, i), 0);
                due.is("2: it has ended", x.at(1, second, 3), Edge.INDEX);
                x.strip(1, first, 8);
                for (int i = 0; i < 8; i++) due.is("2: 0 of 8", x.at(1, first, i), 0);
                x.put(1, 7, -1);
                x.tear(1);
                x.strip(1, first, 8);
                due.is("2: 0 of one that was torn", x.at(1, first, 7), 0);
            }
        }
    }

    private static void bits(int lane, long v, long want) {
        GlacierYears x = with(5, lane, 3);
        due.is("4: put " + v, x.put(5, 1, v), 1);
        due.is("4: " + v + " in LANE " + lane, x.at(5, lane, 1), want);
        due.is("4: the place ahead", x.at(5, lane, 0), 0);
        due.is("4: the place behind", x.at(5, lane, 2), 0);
    }

    /** "A number comes into a place as its lowest bits that the LANE has." */
    private static void lowestBitsOfShorts() {
        bits(0, 32767, 32767);
        bits(0, 32768, -32768);
        bits(0, -32768, -32768);
        bits(0, -32769, 32767);
        bits(0, 65535, -1);
        bits(0, 65536, 0);
        bits(0, 65537, 1);
        bits(0, -65536, 0);
        bits(0, Integer.MAX_VALUE, -1);
        bits(0, Integer.MIN_VALUE, 0);
        bits(0, 1L << 47, 0);
        bits(0, Long.MAX_VALUE, -1);
        bits(0, Long.MIN_VALUE, 0);
    }

    private static void lowestBitsOfInts() {
        bits(1, 32768, 32768);
        bits(1, 65536, 65536);
        bits(1, 2147483647L, 2147483647L);
        bits(1, 2147483648L, -2147483648L);
        bits(1, -2147483648L, -2147483648L);
        bits(1, -2147483649L, 2147483647L);
        bits(1, 4294967295L, -1);
        bits(1, 4294967296L, 0);
        bits(1, 4294967297L, 1);
        bits(1, -4294967296L, 0);
        bits(1, Long.MAX_VALUE, -1);
        bits(1, Long.MIN_VALUE, 0);
    }

    private static void lowestBitsOfLongs() {
        long[] numbers = {0, 1, -1, 32768, 65536, 2147483648L, -2147483649L, 4294967296L, Long.MAX_VALUE,
            Long.MAX_VALUE - 1, Long.MIN_VALUE, Long.MIN_VALUE + 1};
        for (long v : numbers) bits(2, v, v);
    }

    /** "FAILURES (-10 less the number; each is counted): 1 NULL, 2 INDEX, 3 CAST, 4 SIZE". */
    private static void eachFailureIsCounted() {
        GlacierYears x = with(0, 1, 2);
        due.is("NULL", x.at(1, 1, 0), -11);
        due.is("one", x.count(4), 1);
        due.is("INDEX", x.at(0, 1, 2), -12);
        due.is("two", x.count(4), 2);
        due.is("CAST", x.at(0, 0, 0), -13);
        due.is("three", x.count(4), 3);
        due.is("SIZE", x.copy(0, 0, 0, 0, -1), -14);
        due.is("four", x.count(4), 4);
        x.strip(9, 0, 0);
        x.strip(0, 3, 0);
        x.years(1);
        due.is("refusals are not counted", x.count(4), 4);
        x.ground(2, 2);
        due.is("CAST of a cell", x.taken(0, 0, 4, 0), -13);
        due.is("five", x.count(4), 5);
        x.ground(2, 3);
        due.is("they stay with a new GROUND", x.count(4), 5);
        due.is("count(7) is none", x.count(7), Edge.OUTSIDE);
        due.is("still five", x.count(4), 5);
        for (int i = 0; i < 480; i++) x.put(7, 0, 0);
        due.is("as many as there are calls", x.count(4), 485);
    }

    /** A number that lies in a place may be alike to a refusal: it is none. */
    private static void whatLooksLikeAFailure() {
        GlacierYears x = with(0, 0, 1);
        for (int v = -14; v <= -1; v++) {
            x.put(0, 0, v);
            due.is("5: a number " + v, x.at(0, 0, 0), v);
        }
        due.is("5: no failures", x.count(4), 0);
    }

    /** "A STRIP is MISSING: whether it was: 1, 0." */
    private static void tearTellsWhetherItWasMissing() {
        GlacierYears x = new GlacierYears();
        due.is("3: it was MISSING at first", x.tear(7), 1);
        for (int n = 0; n <= 8; n += 8) {
            x.strip(7, 0, n);
            due.is("3: it was there, of " + n, x.tear(7), 0);
            due.is("3: none is there", x.count(6), 0);
            due.is("3: it was MISSING", x.tear(7), 1);
        }
        due.is("3: no failures", x.count(4), 0);
        x.strip(6, 0, 1);
        x.tear(7);
        due.is("3: the one beside it is there", x.count(6), 1);
    }

    /** NULL goes ahead of CAST and INDEX: a torn STRIP has no LANE and no places. */
    private static void tornForgetsItsLane() {
        GlacierYears x = with(0, 1, 4);
        x.strip(1, 0, 4);
        x.tear(0);
        for (int lane = 0; lane <= 2; lane++) due.is("5: torn", x.at(0, lane, 9), Edge.NULL);
        due.is("4: torn", x.put(0, 0, 1), Edge.NULL);
        due.is("6: from a torn one", x.copy(0, 0, 1, 0, 1), Edge.NULL);
        due.is("6: to a torn one", x.copy(1, 0, 0, 0, 1), Edge.NULL);
        due.is("counted", x.count(4), 6);
        due.is("2: of another LANE then", x.strip(0, 0, 2), 2);
        due.is("5: of another LANE then", x.at(0, 0, 1), 0);
        due.is("5: not of the old one", x.at(0, 1, 1), Edge.CAST);
    }

    /** "A number comes into place i of a STRIP: 1. UNKNOWN; NULL; INDEX." */
    private static void putNamesPlaces() {
        GlacierYears x = with(3, 2, 1);
        due.is("4: the one place", x.put(3, 0, 0), 1);
        for (int i : Edge.beside(0, 0)) {
            due.is("4: place " + i, x.put(3, i, 1), Edge.INDEX);
            due.is("4: NULL goes ahead of INDEX", x.put(4, i, 1), Edge.NULL);
            due.is("4: UNKNOWN goes ahead of all", x.put(8, i, 1), Edge.UNKNOWN);
        }
        due.is("4: as it was", x.at(3, 2, 0), 0);
        due.is("4: counted", x.count(4), 12);
    }

    /** "Place i of a STRIP, taken as one of a LANE." */
    private static void atIsOfItsLane() {
        for (int own = 0; own <= 2; own++) {
            GlacierYears x = with(0, own, 1);
            x.put(0, 0, 7);
            for (int lane = 0; lane <= 2; lane++) {
                due.is("5: LANE " + own + " as " + lane, x.at(0, lane, 0), lane == own ? 7 : Edge.CAST);
                due.is("5: CAST goes ahead of INDEX", x.at(0, lane, 1), lane == own ? Edge.INDEX : Edge.CAST);
                due.is("5: and at -1", x.at(0, lane, -1), lane == own ? Edge.INDEX : Edge.CAST);
                due.is("5: NULL goes ahead of both", x.at(1, lane, 1), Edge.NULL);
            }
            due.is("5: OUTSIDE goes ahead of NULL", x.at(1, 3, 0), Edge.OUTSIDE);
            due.is("5: OUTSIDE goes ahead of INDEX", x.at(0, 3, 9), Edge.OUTSIDE);
            due.is("5: counted", x.count(4), 2 + 3 + 3 + 3);
        }
    }

    /** Strips 0 and 1: ints 10 .. 14 and 20 .. 22. */
    private static GlacierYears rows() {
        GlacierYears x = with(0, 1, 5);
        x.strip(1, 1, 3);
        for (int i = 0; i < 5; i++) x.put(0, i, 10 + i);
        for (int i = 0; i < 3; i++) x.put(1, i, 20 + i);
        return x;
    }

    private static void row(GlacierYears x, String what, int strip, long... want) {
        for (int i = 0; i < want.length; i++) due.is(what + ", place " + i, x.at(strip, 1, i), want[i]);
    }

    private static void asTheyWere(GlacierYears x, String what) {
        row(x, what, 0, 10, 11, 12, 13, 14);
        row(x, what, 1, 20, 21, 22);
    }

    /** n places, n being 0: from any place up to the one behind the last. "SIZE: n" (below 0). */
    private static void copyOfNone() {
        GlacierYears x = rows();
        for (int i = 0; i <= 5; i++) {
            for (int j = 0; j <= 3; j++) due.is("6: none", x.copy(0, i, 1, j, 0), 0);
        }
        due.is("6: no failures", x.count(4), 0);
        due.is("6: none from beyond", x.copy(0, 6, 1, 0, 0), Edge.INDEX);
        due.is("6: none to beyond", x.copy(0, 0, 1, 4, 0), Edge.INDEX);
        due.is("6: none from below", x.copy(0, -1, 1, 0, 0), Edge.INDEX);
        due.is("6: none to below", x.copy(0, 0, 1, -1, 0), Edge.INDEX);
        for (int n : Edge.below(0)) {
            due.is("6: n " + n, x.copy(0, 0, 1, 0, n), Edge.SIZE);
            due.is("6: SIZE goes ahead of INDEX", x.copy(0, 9, 1, -1, n), Edge.SIZE);
            due.is("6: SIZE goes ahead of NULL", x.copy(2, 0, 3, 0, n), Edge.SIZE);
            due.is("6: UNKNOWN goes ahead of SIZE", x.copy(0, 0, 8, 0, n), Edge.UNKNOWN);
        }
        due.is("6: counted", x.count(4), 16);
        asTheyWere(x, "6: none came");
    }

    private static void copyOfAll() {
        GlacierYears x = with(0, 2, 8);
        x.strip(7, 2, 8);
        for (int i = 0; i < 8; i++) x.put(0, i, Long.MAX_VALUE - i);
        due.is("6: all 8", x.copy(0, 0, 7, 0, 8), 8);
        for (int i = 0; i < 8; i++) due.is("6: all 8", x.at(7, 2, i), Long.MAX_VALUE - i);
        due.is("6: the last one alone", x.copy(0, 7, 7, 0, 1), 1);
        due.is("6: the last one alone", x.at(7, 2, 0), Long.MAX_VALUE - 7);
        due.is("6: to the last one", x.copy(0, 3, 7, 7, 1), 1);
        due.is("6: to the last one", x.at(7, 2, 7), Long.MAX_VALUE - 3);
        due.is("6: 9 of 8", x.copy(0, 0, 7, 0, 9), Edge.INDEX);
        due.is("6: 8 from 1 on", x.copy(0, 1, 7, 0, 8), Edge.INDEX);
        due.is("6: 8 to 1", x.copy(0, 0, 7, 1, 8), Edge.INDEX);
        due.is("6: as it was", x.at(7, 2, 1), Long.MAX_VALUE - 1);
    }

    /** "INDEX: i, j below 0, or beyond either (then none comes)": not even those that there is room for. */
    private static void copyBeyondEither() {
        GlacierYears x = rows();
        due.is("6: up to the end of both", x.copy(1, 1, 0, 3, 2), 2);
        due.is("6: and back", x.at(0, 1, 4), 22);
        x = rows();
        int[][] wrong = {{4, 0, 2}, {3, 0, 3}, {0, 2, 2}, {0, 1, 3}, {0, 0, 4}, {2, 0, 4}, {5, 0, 1}, {0, 3, 1}, {-1, 0, 1},
            {-1, 0, 2}, {0, -1, 1}, {0, -1, 3}, {Edge.LEAST, 0, 1}, {0, Edge.LEAST, 1}, {Edge.MOST, 0, 1}, {0, Edge.MOST, 1},
            {1, 0, Edge.MOST}, {0, 1, Edge.MOST}, {Edge.MOST, Edge.MOST, Edge.MOST}, {Edge.LEAST, Edge.LEAST, Edge.MOST},
            {Edge.LEAST, 0, Edge.MOST}, {-1, -1, Edge.MOST}};
        for (int[] w : wrong) due.is("6: " + w[0] + ", " + w[1] + ", " + w[2], x.copy(0, w[0], 1, w[1], w[2]), Edge.INDEX);
        due.is("6: onto itself, beyond", x.copy(0, 0, 0, 1, 5), Edge.INDEX);
        due.is("6: counted", x.count(4), wrong.length + 1);
        asTheyWere(x, "6: none comes");
    }

    /** "as they were ahead". */
    private static void copyAsTheyWereAhead() {
        GlacierYears x = rows();
        due.is("6: one up", x.copy(0, 0, 0, 1, 4), 4);
        row(x, "6: one up", 0, 10, 10, 11, 12, 13);
        x = rows();
        due.is("6: one down", x.copy(0, 1, 0, 0, 4), 4);
        row(x, "6: one down", 0, 11, 12, 13, 14, 14);
        x = rows();
        due.is("6: onto the same places", x.copy(0, 0, 0, 0, 5), 5);
        asTheyWere(x, "6: onto the same places");
        due.is("6: from another, not shared", x.copy(1, 0, 0, 0, 3), 3);
        x.put(1, 0, 99);
        row(x, "6: from another, not shared", 0, 20, 21, 22, 13, 14);
    }

    /** "CAST: LANES are unlike", ahead of INDEX, for none, too. */
    private static void copyOfUnlikeLanes() {
        GlacierYears x = new GlacierYears();
        for (int lane = 0; lane <= 2; lane++) {
            x.strip(lane, lane, 4);
            x.strip(lane + 3, lane, 4);
            x.put(lane, 0, 7);
        }
        for (int from = 0; from <= 2; from++) {
            for (int to = 0; to <= 2; to++) {
                boolean alike = from == to;
                due.is("6: LANES " + from + ", " + to, x.copy(from, 0, to + 3, 0, 1), alike ? 1 : Edge.CAST);
                due.is("6: none of LANES " + from + ", " + to, x.copy(from, 0, to + 3, 0, 0), alike ? 0 : Edge.CAST);
                due.is("6: CAST goes ahead of INDEX", x.copy(from, 9, to + 3, 0, 1), alike ? Edge.INDEX : Edge.CAST);
            }
        }
        due.is("6: counted", x.count(4), 6 * 3 + 3);
        for (int lane = 0; lane <= 2; lane++) due.is("6: of its own LANE", x.at(lane + 3, lane, 0), 7);
    }

    private static void copyFromAndToMissing() {
        GlacierYears x = rows();
        due.is("6: from", x.copy(2, 0, 0, 0, 1), Edge.NULL);
        due.is("6: to", x.copy(0, 0, 2, 0, 1), Edge.NULL);
        due.is("6: both", x.copy(2, 0, 3, 0, 1), Edge.NULL);
        due.is("6: none from", x.copy(2, 0, 0, 0, 0), Edge.NULL);
        due.is("6: none to", x.copy(0, 0, 2, 0, 0), Edge.NULL);
        due.is("6: NULL goes ahead of INDEX", x.copy(0, -1, 2, 0, 1), Edge.NULL);
        due.is("6: NULL goes ahead of INDEX", x.copy(2, 0, 0, 9, 1), Edge.NULL);
        due.is("6: UNKNOWN goes ahead of NULL", x.copy(2, 0, 8, 0, 1), Edge.UNKNOWN);
        due.is("6: counted", x.count(4), 7);
        due.is("6: they stay MISSING", x.count(6), 2);
        asTheyWere(x, "6: none came");
    }
}
