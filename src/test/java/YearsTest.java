/** What a YEAR does, and promises 13 to 15. */
public final class YearsTest {
    private static final Due due = new Due("YearsTest");
    private static final int OUTSIDE = -2, STATE = -3, FULL = -4, NONE = -9;

    public static void main(String[] args) {
        snow();
        melt();
        shares();
        howMuchMoves();
        steepMoves();
        orderOfNeighbours();
        allAtOnce();
        falls();
        floats();
        afterSnowAndMelt();
        years();
        yearsRefused();
        back();
        backKeepsFive();
        backForgets();
        steady();
        steadyPeriod();
        steadyRefused();
        due.end();
    }

    private static void snow() {
        GlacierYears x = Grounds.of(new int[][] {{0, 999, 1000, 1999}, {8999, 9000, 9999, -1}});
        int[] bands = {0, 0, 1, 1, 8, 9, 9};
        for (int band = 0; band <= 9; band++) x.tell(false, band, 100 + band);
        x.years(1);
        for (int i = 0; i < 7; i++) {
            due.is("13: snow by band", x.cell(i % 4, i / 4, 1), 100 + bands[i]);
            due.is("13: of this YEAR", x.layer(i % 4, i / 4, 0, 0), 1);
        }
        x.tell(false, 0, 7);
        x.tell(false, 1, 0);
        x.years(1);
        due.is("13: of the next YEAR", x.layer(0, 0, 0, 0), 2);
        due.is("13: its snow", x.layer(0, 0, 0, 1), 7);
        due.is("13: below it the older", x.layer(0, 0, 1, 1), 100);
        due.is("13: no snow, no LAYER", x.layer(2, 0, 0, 0), 1);
        due.is("13: snow is counted", x.sum(4, 1), 100 + 100 + 101 + 101 + 108 + 109 + 109);
        due.is("13: snow is counted", x.sum(4, 2), 7 + 7 + 108 + 109 + 109);
        due.is("13: no ice was told", x.sum(4, 0), 0);
    }

    private static void melt() {
        GlacierYears x = Grounds.flat(2, 2, 3000);
        x.tell(false, 3, 10);
        x.years(3);
        x.tell(true, 3, 26);
        x.years(1);
        due.is("13: snow ahead of melt, from the top down", x.cell(0, 0, 1), 14);
        due.is("13: its top", x.layer(0, 0, 0, 0), 2);
        due.is("13: what is left of it", x.layer(0, 0, 0, 1), 4);
        due.is("13: the lowest whole", x.layer(0, 0, 1, 1), 10);
        due.is("13: melted of 4", x.sum(1, 4), 40);
        due.is("13: melted of 3", x.sum(1, 3), 40);
        due.is("13: melted of 2", x.sum(1, 2), 24);
        due.is("13: melted of 1", x.sum(1, 1), 0);
        x.years(2);
        due.is("13: as far as there is ice", x.cell(0, 0, 1), 0);
        due.is("13: no more melted than came", x.sum(1, NONE), 4 * 60);
        due.is("13: no ice lies", x.sum(0, NONE), 0);
        x.tell(true, 3, 0);
        x.years(1);
        due.is("13: no debt of melt", x.cell(1, 1, 1), 10);
    }

    private static void shares() {
        GlacierYears x = Grounds.of(new int[][] {{0, 0, 0, 0}, {0, 9999, 9999, 9999}});
        x.kind(0, 0, 2, 33);
        x.kind(1, 0, 2, 0);
        x.kind(2, 0, 2, 100);
        x.kind(3, 0, 1, 33);
        x.kind(0, 1, 3, 33);
        for (int i = 0; i < 5; i++) x.ice(i % 4, i / 4, 1000);
        x.tell(true, 0, 101);
        x.years(1);
        due.is("13: SHADED: 101 less 33", x.cell(0, 0, 1), 1000 - 68);
        due.is("13: no SHARE", x.cell(1, 0, 1), 1000 - 101);
        due.is("13: all SHARE", x.cell(2, 0, 1), 1000);
        due.is("13: STEEP has no SHARE", x.cell(3, 0, 1), 1000 - 101);
        due.is("13: LAKE floats", x.cell(0, 1, 1), 0);
        due.is("13: what of it had not melted", x.sum(3, 0), 1000 - 68);
        due.is("13: melted", x.sum(1, 0), 68 + 101 + 101 + 68);
    }

    /** Cell 0, 0 gives to the right alone: below it lies higher ground, without ice. */
    private static GlacierYears pair(int high, int low, int grains) {
        GlacierYears x = Grounds.of(new int[][] {{high, low}, {9999, 9999}});
        x.ice(0, 0, grains);
        return x;
    }

    private static void gives(String what, GlacierYears x, int want) {
        long had = x.cell(0, 0, 1);
        due.is("20: " + what, x.gives(0, 0, 1), want);
        due.is("20: none below", x.gives(0, 0, 2), 0);
        x.years(1);
        due.is("13: " + what, x.cell(1, 0, 1), want);
        due.is("13: taken", x.cell(0, 0, 1), had - want);
        due.is("13: none fell", x.sum(2, NONE), 0);
    }

    private static void howMuchMoves() {
        GlacierYears x = pair(1000, 1000, 100);
        x.rule(10, 1);
        gives("10 * 100 * 1 / 100 is less than 12", x, 10);
        x = pair(1000, 1000, 87);
        x.rule(10, 1);
        gives("10 * 87 * 1 / 100, cut", x, 8);
        x = pair(1000, 1000, 100);
        x.rule(1, 7);
        gives("the CAP is the lesser", x, 7);
        x = pair(5000, 1000, 100);
        x.rule(100, 1000);
        gives("a THICKNESS of 100 / 8", x, 12);
        x = pair(1000, 1079, 100);
        x.rule(100, 1000);
        gives("D is 21: 21 / 8", x, 2);
        x = pair(1000, 1093, 100);
        x.rule(100, 1000);
        gives("D is 7", x, 0);
        x = pair(1000, 1092, 100);
        x.rule(100, 1000);
        gives("D is 8", x, 1);
        x = pair(1000, 1100, 100);
        x.rule(100, 1000);
        gives("none that is as high", x, 0);
        x = pair(5000, 0, 7);
        x.rule(100, 1000);
        gives("THICKNESS 7", x, 0);
        x = pair(9999, 0, 1000000);
        x.rule(100, 1000000);
        due.is("20: much", x.gives(0, 0, 1), 125000);
        x = pair(5000, 1000, 100);
        x.rule(0, 1000);
        gives("no FRACTION", x, 0);
        x = pair(1000, 1000, 8);
        x.rule(1, 1000);
        gives("m is the THICKNESS where that is the lesser: 1 * 8 * 8 / 100", x, 0);
        x = pair(1000, 1000, 10);
        x.rule(1, 1000);
        gives("1 * 10 * 10 / 100", x, 1);
    }

    private static void steepMoves() {
        GlacierYears x = pair(1000, 1000, 100);
        x.rule(10, 1);
        x.kind(0, 0, 1, 5);
        gives("STEEP: its own FRACTION", x, 5);
        x = pair(1000, 1000, 100);
        x.rule(10, 1);
        x.kind(0, 0, 1, 0);
        gives("STEEP without a FRACTION", x, 0);
        x = pair(1000, 1000, 100);
        x.rule(10, 1);
        x.kind(1, 0, 1, 0);
        x.kind(0, 0, 2, 3);
        gives("SHADED: THE FRACTION; who gets it does not matter", x, 10);
    }

    private static void orderOfNeighbours() {
        GlacierYears x = Grounds.of(new int[][] {{0, 0, 0}, {0, 5000, 0}, {0, 0, 0}});
        x.ice(1, 1, 800);
        x.tell(false, 5, 110);
        x.rule(100, 1000);
        x.years(1);
        // 910 / 8 = 113 to each: 110 of YEAR 1 to the first, the rest of YEAR 0.
        due.is("13: above first: the top LAYER", x.layer(1, 0, 0, 0), 1);
        due.is("13: above first: all of it", x.layer(1, 0, 0, 1), 110);
        due.is("13: above first: and 3", x.layer(1, 0, 1, 1), 3);
        int[][] others = {{2, 1}, {1, 2}, {0, 1}};
        for (int[] p : others) {
            due.is("13: then of YEAR 0", x.layer(p[0], p[1], 0, 0), 0);
            due.is("13: as much", x.layer(p[0], p[1], 0, 1), 113);
        }
        due.is("13: left", x.cell(1, 1, 1), 910 - 4 * 113);
        due.is("13: no corner", x.cell(0, 0, 1), 0);
        right(Grounds.of(new int[][] {{9999, 9999, 9999}, {0, 5000, 0}, {0, 0, 0}}), 2, 1);
        right(Grounds.of(new int[][] {{9999, 9999, 9999}, {0, 5000, 9999}, {0, 0, 0}}), 1, 2);
        right(Grounds.of(new int[][] {{9999, 9999, 9999}, {0, 5000, 9999}, {0, 9999, 0}}), 0, 1);
    }

    private static void right(GlacierYears x, int toX, int toY) {
        x.ice(1, 1, 800);
        x.tell(false, 5, 110);
        x.rule(100, 1000);
        x.years(1);
        due.is("13: the next in order gets the top LAYER", x.layer(toX, toY, 0, 0), 1);
        due.is("13: the next in order gets 110 of it", x.layer(toX, toY, 0, 1), 110);
    }

    private static void allAtOnce() {
        GlacierYears x = Grounds.of(new int[][] {{2000, 1000, 0}, {9000, 9000, 9000}});
        x.ice(0, 0, 80);
        x.rule(100, 1000);
        long[][] want = {{70, 10, 0}, {62, 17, 1}, {55, 22, 3}};
        for (int year = 1; year <= 3; year++) {
            x.years(1);
            for (int i = 0; i < 3; i++) due.is("13: all at once, YEAR " + year, x.cell(i, 0, 1), want[year - 1][i]);
        }
        x = Grounds.of(new int[][] {{0, 1000, 2000}, {9000, 9000, 9000}});
        x.ice(2, 0, 80);
        x.rule(100, 1000);
        for (int year = 1; year <= 3; year++) {
            x.years(1);
            for (int i = 0; i < 3; i++) due.is("13: and the other way", x.cell(2 - i, 0, 1), want[year - 1][i]);
        }
        // What comes in this YEAR does not go on: the middle gives of its own YEAR 0 alone.
        x = Grounds.of(new int[][] {{2000, 1000, 0}, {9000, 9000, 9000}});
        x.ice(1, 0, 80);
        x.tell(false, 2, 80);
        x.rule(100, 1000);
        x.years(1);
        due.is("13: came from the left", x.layer(1, 0, 0, 0), 1);
        due.is("13: came from the left", x.layer(1, 0, 0, 1), 10);
        due.is("13: went to the right", x.layer(2, 0, 0, 0), 0);
        due.is("13: went to the right", x.layer(2, 0, 0, 1), 10);
        due.is("13: no other", x.cell(2, 0, 3), 1);
    }

    private static void falls() {
        GlacierYears x = Grounds.pillar(9999);
        x.ice(1, 1, 83);
        x.tell(false, 9, 12);
        x.rule(100, 1000);
        x.years(1);
        due.is("13: 95 / 8 to each CLIFF", x.sum(2, NONE), 44);
        due.is("13: the top fell first", x.sum(2, 1), 12);
        due.is("13: then the older", x.sum(2, 0), 32);
        due.is("13: left", x.cell(1, 1, 1), 51);
        x = Grounds.flat(2, 2, 9999);
        x.ice(0, 0, 83);
        x.rule(0, 1000);
        x.years(1);
        due.is("13: nothing falls off THE GROUND", x.sum(2, NONE), 0);
        x = Grounds.of(new int[][] {{0, -1}, {0, 0}});
        x.ice(0, 0, 100);
        x.rule(3, 2);
        due.is("20: to a CLIFF D is the THICKNESS: 3 * 100 * 2 / 100", x.gives(0, 0, 1), 6);
        due.is("20: and below: 6, too", x.gives(0, 0, 2), 6);
        x.kind(0, 0, 1, 1);
        due.is("20: STEEP to a CLIFF", x.gives(0, 0, 1), 2);
    }

    private static void floats() {
        GlacierYears x = Grounds.of(new int[][] {{2000, 1000, 0}, {9000, 9000, 9000}});
        x.kind(1, 0, 3, 0);
        x.ice(0, 0, 80);
        x.ice(1, 0, 160);
        x.tell(false, 1, 16);
        x.rule(100, 1000);
        due.is("13: ice that was told lies on a LAKE", x.cell(1, 0, 1), 160);
        x.years(1);
        due.is("13: it all floats in the YEAR", x.cell(1, 0, 1), 0);
        due.is("13: what it gave ahead is not floated", x.cell(2, 0, 1), 22);
        due.is("13: what it gave was the top", x.layer(2, 0, 0, 1), 16);
        due.is("13: what came in the YEAR floats", x.sum(3, 0), 160 - 6 + 10);
        due.is("13: none of YEAR 1 is left there", x.sum(3, 1), 0);
        due.is("13: what lies", x.sum(0, NONE), 70 + 22);
        x.years(1);
        due.is("13: what comes floats", x.sum(3, NONE), 164 + 16 - 2 + 8);
        due.is("13: snow of YEAR 2 floated", x.sum(3, 2), 14);
    }

    private static void afterSnowAndMelt() {
        GlacierYears x = Grounds.of(new int[][] {{1000, 900}, {9000, 9000}});
        x.tell(false, 1, 100);
        x.tell(true, 1, 20);
        x.rule(100, 1000);
        due.is("20: no ice yet", x.gives(0, 0, 1), 0);
        x.years(1);
        due.is("13: moves by what snow and melt left: 80 / 8", x.cell(1, 0, 1), 10);
        due.is("13: moves by what snow and melt left", x.cell(0, 0, 1), 70);
    }

    private static void years() {
        GlacierYears x = Grounds.flat(2, 2, 0);
        due.is("13: one", x.years(1), 1);
        due.is("13: five", x.years(5), 6);
        due.is("13: up to 60", x.years(54), 60);
        due.is("13: the YEAR", x.count(2), 60);
        x.ground(2, 2);
        due.is("13: all at a time", x.years(60), 60);
        x.ground(2, 2);
        x.tell(false, 0, 5);
        x.years(60);
        due.is("13: 60 LAYERS", x.cell(0, 0, 3), 60);
        due.is("13: the top one", x.cell(0, 0, 4), 60);
        due.is("13: the lowest one", x.cell(0, 0, 5), 1);
        due.is("13: grains", x.cell(1, 1, 1), 300);
        due.is("13: snow of YEAR 60", x.sum(4, 60), 20);
    }

    private static void yearsRefused() {
        GlacierYears x = new GlacierYears();
        int[] wrong = {0, -1, 61, Integer.MAX_VALUE, Integer.MIN_VALUE};
        for (int n : wrong) due.is("13: outside goes ahead of state", x.years(n), OUTSIDE);
        due.is("13: no ground", x.years(1), STATE);
        due.is("13: no ground", x.years(60), STATE);
        Grounds.lay(x, new int[][] {{1, 1}, {1, 1}});
        x.years(50);
        for (int n : wrong) due.is("13: outside goes ahead of full", x.years(n), OUTSIDE);
        due.is("13: above 60", x.years(11), FULL);
        due.is("13: above 60", x.years(60), FULL);
        due.is("13: none goes by", x.count(2), 50);
        due.is("13: to 60", x.years(10), 60);
        due.is("13: above 60", x.years(1), FULL);
        due.is("13: no failures", x.count(4), 0);
    }

    private static void back() {
        GlacierYears x = Grounds.of(new int[][] {{2000, 1000, 0}, {9000, -1, 9000}});
        due.is("14: none went by", x.back(), STATE);
        x.kind(2, 0, 3, 0);
        x.ice(0, 0, 800);
        x.tell(false, 2, 80);
        x.tell(true, 2, 8);
        x.rule(100, 1000);
        long[] start = Seen.all(x);
        x.years(1);
        long[] first = Seen.all(x);
        x.years(1);
        x.tell(false, 2, 33);
        x.tell(true, 2, 22);
        x.rule(50, 500);
        due.is("14: back to 1", x.back(), 1);
        due.is("14: SNOW stays", x.tell(false, 2, 80), 33);
        due.is("14: MELT stays", x.tell(true, 2, 8), 22);
        due.is("14: CAP stays", x.rule(100, 1000), 500);
        due.holds("14: as behind the first", Seen.alike(first, Seen.all(x)));
        due.is("14: back to 0", x.back(), 0);
        due.holds("14: as at the start", Seen.alike(start, Seen.all(x)));
        due.is("14: no more", x.back(), STATE);
        x.years(1);
        due.holds("14: the same YEAR again", Seen.alike(first, Seen.all(x)));
        due.is("14: no ground", new GlacierYears().back(), STATE);
    }

    private static void backKeepsFive() {
        GlacierYears x = Grounds.flat(2, 2, 0);
        x.tell(false, 0, 3);
        for (int year = 1; year <= 8; year++) {
            x.years(1);
            due.is("22: can be taken back", x.count(3), Math.min(year, 5));
        }
        x.back();
        x.back();
        due.is("22: three are left", x.count(3), 3);
        x.tell(false, 0, 4);
        x.years(1);
        due.is("22: and one more", x.count(3), 4);
        due.is("14: its grains", x.cell(0, 0, 1), 22);
        for (int year = 6; year >= 3; year--) {
            due.is("14: back", x.back(), year);
            due.is("14: its grains", x.cell(0, 0, 1), 3 * year);
            due.is("14: its sum", x.sum(4, NONE), 12 * year);
            due.is("14: no later snow", x.sum(4, year + 1), 0);
        }
        due.is("14: no more", x.back(), STATE);
        due.is("14: the YEAR stays", x.count(2), 3);
        due.is("14: it goes on", x.years(1), 4);
        due.is("14: back again", x.back(), 3);
        due.is("14: and no more", x.back(), STATE);
        due.is("14: up to 60 again", x.years(57), 60);
        due.is("14: back from 60", x.back(), 59);
        due.is("14: 60 again", x.years(1), 60);
    }

    private static void backForgets() {
        GlacierYears x = Grounds.flat(2, 3, 0);
        x.years(3);
        x.tell(false, 0, 3);
        x.rule(5, 5);
        x.strip(0, 0, 0);
        x.tear(1);
        due.is("14: told, STRIPS: they stay", x.count(3), 3);
        x.kind(0, 0, 0, 0);
        due.is("14: a KIND", x.back(), STATE);
        x.years(3);
        due.is("21: a turn, refused", x.turn(2), OUTSIDE);
        due.is("21: a turn, refused", x.count(3), 3);
        x.turn(0);
        due.is("21: mirrored", x.back(), STATE);
        x.years(1);
        x.turn(1);
        due.is("21: turned", x.back(), STATE);
        x.years(1);
        due.is("14: since the turn", x.back(), 7);
        x.years(1);
        x.ground(2, 2);
        due.is("14: laid anew", x.back(), STATE);
    }

    private static void steady() {
        GlacierYears x = Grounds.flat(2, 2, 0);
        x.ice(0, 0, 500);
        due.is("15: nothing moves", x.steady(5), 1);
        due.is("15: one YEAR went by", x.count(2), 1);
        x.tell(false, 0, 7);
        due.is("15: it grows", x.steady(4), 0);
        due.is("15: all went by", x.count(2), 5);
        due.is("15: five can be taken back", x.count(3), 5);
        x.tell(true, 0, 7);
        due.is("15: as much snow as melt", x.steady(1), 1);
        due.is("15: back", x.back(), 5);
        x = Grounds.flat(2, 2, 0);
        x.ice(0, 0, 500);
        x.kind(0, 0, 3, 0);
        due.is("15: it floats, then lies still", x.steady(9), 1);
        due.is("15: two YEARS went by", x.count(2), 2);
    }

    /** One grain of snow a YEAR; at 8 grains one falls to each of four CLIFFS. */
    private static GlacierYears dripping() {
        GlacierYears x = Grounds.pillar(0);
        x.tell(false, 0, 1);
        x.rule(100, 1000);
        return x;
    }

    private static void steadyPeriod() {
        GlacierYears x = dripping();
        due.is("15: 1, 2, .. 7, 4", x.steady(60), 4);
        due.is("15: 8 YEARS went by", x.count(2), 8);
        due.is("15: it lies as in YEAR 4", x.cell(1, 1, 1), 4);
        x = dripping();
        due.is("15: not in 7", x.steady(7), 0);
        due.is("15: the YEAR", x.count(2), 7);
        due.is("15: only these YEARS count", x.steady(1), 0);
        due.is("15: only these and ahead", x.steady(3), 0);
        due.is("15: 7 ahead of them, not yet", x.cell(1, 1, 1), 7);
        due.is("15: as it stood ahead", x.steady(60 - 11), 4);
        due.is("15: the YEAR", x.count(2), 15);
        x = dripping();
        due.is("15: at n", x.steady(8), 4);
    }

    private static void steadyRefused() {
        GlacierYears x = new GlacierYears();
        int[] wrong = {0, -1, 61, Integer.MAX_VALUE, Integer.MIN_VALUE};
        for (int n : wrong) due.is("15: outside goes ahead of state", x.steady(n), OUTSIDE);
        due.is("15: no ground", x.steady(1), STATE);
        Grounds.lay(x, new int[][] {{1, 1}, {1, 1}});
        x.years(50);
        for (int n : wrong) due.is("15: outside goes ahead of full", x.steady(n), OUTSIDE);
        due.is("15: above 60 with n, though it would come back", x.steady(11), FULL);
        due.is("15: none goes by", x.count(2), 50);
        due.is("15: 60 with n", x.steady(10), 1);
        due.is("15: one went by", x.count(2), 51);
        due.is("15: no failures", x.count(4), 0);
    }
}
