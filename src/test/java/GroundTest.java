/** Promises 7 to 12. */
public final class GroundTest {
    private static final Due due = new Due("GroundTest");
    private static final int UNKNOWN = -1, OUTSIDE = -2, STATE = -3, CAST = -13, NONE = -9;
    private static final int MOST = Integer.MAX_VALUE, LEAST = Integer.MIN_VALUE;

    public static void main(String[] args) {
        groundLevels();
        groundOfLanes();
        groundAnew();
        groundRefused();
        kind();
        kindRefused();
        taken();
        takenRefused();
        tell();
        rule();
        ice();
        iceRefused();
        due.end();
    }

    private static void groundLevels() {
        GlacierYears x = new GlacierYears();
        due.is("7: all strips missing", x.ground(8, 8), 64);
        due.is("7: the least", x.ground(2, 2), 4);
        x.strip(0, 1, 8);
        long[] numbers = {0, 1, 999, 1000, 9999, 10000, -1, Integer.MIN_VALUE};
        for (int i = 0; i < 8; i++) x.put(0, i, numbers[i]);
        x.strip(1, 1, 3);
        due.is("7: a row, an ended row, a missing row", x.ground(8, 3), 3 + 5 + 8);
        for (int i = 0; i < 8; i++) due.is("7: level " + i, x.cell(i, 0, 0), i < 5 ? numbers[i] : STATE);
        for (int i = 0; i < 8; i++) due.is("7: ended at 3", x.cell(i, 1, 0), i < 3 ? 0 : STATE);
        due.is("7: missing", x.cell(0, 2, 0), STATE);
        due.is("7: beyond the width", x.cell(8, 0, 0), UNKNOWN);
        due.is("7: beyond the height", x.cell(0, 3, 0), UNKNOWN);
        due.is("7: a lesser width looks at less", x.ground(5, 2), 2);
        x.tear(0);
        x.put(1, 0, 1234);
        due.is("7: as it was laid, torn", x.cell(4, 0, 0), 9999);
        due.is("7: as it was laid, put", x.cell(0, 1, 0), 0);
        due.is("7: cells are CELLS", x.taken(0, 0, 0, 0), 0);
        due.is("7: cliffs are CLIFFS", x.taken(4, 1, 0, 0), 4);
    }

    private static void groundOfLanes() {
        GlacierYears x = new GlacierYears();
        for (int lane = 0; lane <= 2; lane++) {
            x.strip(lane, lane, 2);
            x.put(lane, 0, 65536L * 65536L + 7);
            x.put(lane, 1, 65536L + 8);
        }
        due.is("7: lanes", x.ground(2, 3), 3);
        due.is("7: short", x.cell(0, 0, 0), 7);
        due.is("7: short", x.cell(1, 0, 0), 8);
        due.is("7: int", x.cell(0, 1, 0), 7);
        due.is("7: int above", x.cell(1, 1, 0), STATE);
        due.is("7: long above", x.cell(0, 2, 0), STATE);
    }

    private static void groundAnew() {
        GlacierYears x = Grounds.flat(3, 2, 2000);
        x.kind(0, 0, 1, 7);
        x.kind(1, 0, 3, 7);
        x.ice(0, 0, 900);
        x.tell(false, 2, 50);
        x.tell(true, 2, 20);
        x.rule(3, 2);
        x.years(3);
        due.is("7: anew", x.ground(3, 2), 0);
        for (int what = 0; what <= 4; what++) due.is("7: sum is 0", x.sum(what, NONE), 0);
        due.is("7: sum of YEAR 0 is 0", x.sum(4, 0), 0);
        due.is("7: no ice", x.about(0), 0);
        due.is("7: no ice in a cell", x.cell(0, 0, 1), 0);
        due.is("7: no LAYERS in a cell", x.cell(0, 0, 3), 0);
        due.is("7: no LAYERS in a cell", x.layer(0, 0, 0, 1), NONE);
        due.is("7: the YEAR is 0", x.count(2), 0);
        due.is("7: none to take back", x.count(3), 0);
        due.is("7: back", x.back(), STATE);
        due.is("7: a CELL again", x.taken(0, 0, 0, 0), 0);
        due.is("7: with no FRACTION", x.taken(0, 0, 0, 1), 0);
        due.is("7: SNOW stays", x.tell(false, 2, 0), 50);
        due.is("7: MELT stays", x.tell(true, 2, 0), 20);
        Grounds.lay(x, new int[][] {{9000, 0}, {0, 0}});
        x.ice(0, 0, 80000);
        due.is("7: FRACTION and CAP stay: 3 * 89000 * 2 / 100", x.gives(0, 0, 1), 5340);
        due.is("7: width", x.count(0), 2);
    }

    private static void groundRefused() {
        GlacierYears x = Grounds.flat(4, 3, 10);
        x.ice(3, 2, 5);
        int[] wrong = {1, 0, -1, 9, MOST, LEAST};
        for (int side : wrong) {
            due.is("7: width " + side, x.ground(side, 4), OUTSIDE);
            due.is("7: height " + side, x.ground(4, side), OUTSIDE);
        }
        due.is("7: width as it was", x.count(0), 4);
        due.is("7: height as it was", x.count(1), 3);
        due.is("7: ice as it was", x.cell(3, 2, 1), 5);
        due.is("7: no failures", x.count(4), 0);
    }

    private static void kind() {
        GlacierYears x = Grounds.flat(2, 2, 10);
        due.is("8: was a CELL", x.kind(0, 0, 1, 100), 0);
        due.is("8: was STEEP", x.kind(0, 0, 2, 0), 1);
        due.is("8: was SHADED", x.kind(0, 0, 3, 55), 2);
        due.is("8: SHARE", x.taken(0, 0, 3, 1), 55);
        due.is("8: was a LAKE", x.kind(0, 0, 0, 12), 3);
        due.is("8: a CELL has none", x.taken(0, 0, 0, 1), 0);
        due.is("8: of a CELL not looked at", x.kind(0, 0, 0, -1), 0);
        due.is("8: of a CELL not looked at", x.kind(0, 0, 0, MOST), 0);
        due.is("8: another is as it was", x.taken(1, 0, 0, 0), 0);
        x.ice(1, 1, 40);
        x.kind(1, 1, 2, 10);
        due.is("8: its ice stays", x.cell(1, 1, 1), 40);
        x.years(2);
        due.is("8: two to take back", x.count(3), 2);
        due.is("8: told again", x.kind(1, 1, 2, 10), 2);
        due.is("8: none to take back", x.count(3), 0);
        due.is("8: none to take back", x.back(), STATE);
        due.is("8: the YEAR stays", x.count(2), 2);
    }

    private static void kindRefused() {
        GlacierYears x = Grounds.of(new int[][] {{1, 2, -1}, {3, 4, 5}});
        x.kind(1, 0, 1, 33);
        x.years(1);
        int[][] nowhere = {{-1, 0}, {0, -1}, {3, 0}, {0, 2}, {MOST, 0}, {0, LEAST}, {8, 0}};
        for (int[] p : nowhere) due.is("8: no such place", x.kind(p[0], p[1], 9, 999), UNKNOWN);
        due.is("8: kind 4", x.kind(1, 0, 4, 0), OUTSIDE);
        due.is("8: kind -1", x.kind(1, 0, -1, 0), OUTSIDE);
        for (int kind = 1; kind <= 3; kind++) {
            due.is("8: below 0", x.kind(1, 0, kind, -1), OUTSIDE);
            due.is("8: above 100", x.kind(1, 0, kind, 101), OUTSIDE);
        }
        due.is("8: outside goes ahead of state", x.kind(2, 0, 1, 101), OUTSIDE);
        due.is("8: outside goes ahead of state", x.kind(2, 0, 4, 1), OUTSIDE);
        due.is("8: a CLIFF", x.kind(2, 0, 1, 1), STATE);
        due.is("8: a CLIFF for good", x.kind(2, 0, 0, 1), STATE);
        due.is("8: as it was", x.taken(1, 0, 1, 1), 33);
        due.is("8: can still be taken back", x.count(3), 1);
        due.is("8: no failures", x.count(4), 0);
        due.is("8: no ground", new GlacierYears().kind(0, 0, 0, 0), UNKNOWN);
    }

    /** Row: the KIND of the cell; column: what it is taken as. */
    private static final boolean[][] COUNTS_AS = {
        {true, false, false, false, false},
        {true, true, false, false, false},
        {true, false, true, false, false},
        {true, false, true, true, false},
        {true, true, false, false, true}};

    private static void taken() {
        GlacierYears x = Grounds.of(new int[][] {{1, 1, 1, 1, -1}, {1, 1, 1, 1, 1}});
        for (int kind = 0; kind <= 3; kind++) x.kind(kind, 0, kind, 10 * kind);
        int failures = 0;
        for (int kind = 0; kind <= 4; kind++) {
            for (int as = 0; as <= 4; as++) {
                boolean counts = COUNTS_AS[kind][as];
                if (!counts) failures += 2;
                String what = "9: " + kind + " taken as " + as;
                due.is(what, x.taken(kind, 0, as, 0), counts ? kind : CAST);
                due.is(what + ", hundredths", x.taken(kind, 0, as, 1), counts ? kind % 4 * 10 : CAST);
                due.is(what + ", failures", x.count(4), failures);
            }
        }
    }

    private static void takenRefused() {
        GlacierYears x = Grounds.of(new int[][] {{1, -1}, {1, 1}});
        due.is("9: x", x.taken(2, 0, 9, 0), UNKNOWN);
        due.is("9: y", x.taken(0, -1, 0, 9), UNKNOWN);
        due.is("9: kind 5", x.taken(0, 0, 5, 0), OUTSIDE);
        due.is("9: kind -1", x.taken(0, 0, -1, 0), OUTSIDE);
        due.is("9: what 2", x.taken(0, 0, 0, 2), OUTSIDE);
        due.is("9: what -1, ahead of cast", x.taken(0, 0, 4, -1), OUTSIDE);
        due.is("9: no failures", x.count(4), 0);
        due.is("9: a CLIFF as a CELL", x.taken(1, 0, 0, 0), 4);
        due.is("9: a CLIFF has none", x.taken(1, 0, 4, 1), 0);
        due.is("9: no ground", new GlacierYears().taken(0, 0, 0, 0), UNKNOWN);
    }

    private static void tell() {
        GlacierYears x = new GlacierYears();
        for (int band = 0; band <= 9; band++) {
            due.is("10: snow was", x.tell(false, band, 100 + band), 0);
            due.is("10: melt was", x.tell(true, band, 200 + band), 0);
        }
        for (int band = 0; band <= 9; band++) {
            due.is("10: snow was told", x.tell(false, band, 100000), 100 + band);
            due.is("10: melt was told", x.tell(true, band, 0), 200 + band);
        }
        due.is("10: band -1", x.tell(false, -1, 1), OUTSIDE);
        due.is("10: band 10", x.tell(true, 10, 1), OUTSIDE);
        due.is("10: below 0", x.tell(false, 0, -1), OUTSIDE);
        due.is("10: above 100000", x.tell(false, 0, 100001), OUTSIDE);
        due.is("10: as it was", x.tell(false, 0, 7), 100000);
        due.is("10: no failures", x.count(4), 0);
    }

    private static void rule() {
        GlacierYears x = Grounds.of(new int[][] {{5000, 0}, {0, 0}});
        x.ice(0, 0, 1000);
        due.is("11: FRACTION 0 at first", x.gives(0, 0, 1), 0);
        due.is("11: CAP at first", x.rule(100, 1000000), 1000);
        due.is("11: gives", x.gives(0, 0, 1), 125);
        due.is("11: CAP that was", x.rule(0, 1), 1000000);
        due.is("11: gives none", x.gives(0, 0, 1), 0);
        due.is("11: fraction -1", x.rule(-1, 5), OUTSIDE);
        due.is("11: fraction 101", x.rule(101, 5), OUTSIDE);
        due.is("11: cap 0", x.rule(5, 0), OUTSIDE);
        due.is("11: cap above", x.rule(5, 1000001), OUTSIDE);
        due.is("11: as it was", x.gives(0, 0, 1), 0);
        due.is("11: as it was", x.rule(1, 1), 1);
        due.is("11: one hundredth, cap 1: 6000 / 100", x.gives(0, 0, 1), 60);
        due.is("11: no failures", x.count(4), 0);
    }

    private static void ice() {
        GlacierYears x = Grounds.of(new int[][] {{10, 20}, {30, -1}});
        due.is("12: none", x.ice(0, 0, 0), 0);
        due.is("12: no LAYER of none", x.cell(0, 0, 3), 0);
        due.is("12: most", x.ice(0, 0, 1000000), 1000000);
        due.is("12: more", x.ice(0, 0, 1000000), 2000000);
        due.is("12: its YEAR", x.layer(0, 0, 0, 0), 0);
        due.is("12: one LAYER", x.cell(0, 0, 3), 1);
        due.is("12: another", x.ice(1, 0, 3), 3);
        due.is("12: it is counted", x.sum(4, 0), 2000003);
        due.is("12: it lies", x.sum(0, 0), 2000003);
        for (int i = 0; i < 400; i++) x.ice(0, 1, 1000000);
        due.is("12: much", x.ice(0, 1, 0), 400000000);
        due.is("12: in all", x.sum(4, NONE), 402000003);
        x.years(2);
        x.back();
        due.is("12: the YEAR is 1", x.ice(0, 0, 1), STATE);
        x.back();
        due.is("12: the YEAR is 0 again", x.ice(0, 0, 1), 2000001);
    }

    private static void iceRefused() {
        GlacierYears x = Grounds.of(new int[][] {{10, 20}, {30, -1}});
        due.is("12: no such place", x.ice(2, 0, -1), UNKNOWN);
        due.is("12: below 0", x.ice(0, 0, -1), OUTSIDE);
        due.is("12: above", x.ice(0, 0, 1000001), OUTSIDE);
        due.is("12: outside goes ahead of state", x.ice(1, 1, -1), OUTSIDE);
        due.is("12: a CLIFF", x.ice(1, 1, 1), STATE);
        x.years(1);
        due.is("12: outside goes ahead of state", x.ice(0, 0, LEAST), OUTSIDE);
        due.is("12: the YEAR is not 0", x.ice(0, 0, 1), STATE);
        due.is("12: not even none", x.ice(0, 0, 0), STATE);
        due.is("12: none came", x.sum(4, NONE), 0);
        due.is("12: it can still be taken back", x.count(3), 1);
        due.is("12: no ground", new GlacierYears().ice(0, 0, 1), UNKNOWN);
    }
}
