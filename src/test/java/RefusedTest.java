import java.util.ArrayList;
import java.util.Arrays;
import java.util.List;
import java.util.function.Supplier;
import java.util.function.ToLongFunction;

/**
 * "REFUSALS, of several the first that a call names" and "What is refused or fails changes nothing, but the count":
 * each call that can be refused or can fail, in each way, and all that is told ahead of it and behind it.
 */
public final class RefusedTest {
    private static final Due due = new Due("RefusedTest");
    private static final int[] LANES = {0, 1, 2, 1, 2, 0}, LENGTHS = {8, 3, 0, 5, 8, 1};
    private static final int SEVENTH = 6, TORN = 7, FRACTION = 37, CAP = 450;

    private static Supplier<GlacierYears> made;
    private static String state;

    public static void main(String[] args) {
        in("a GROUND in the YEAR 9", RefusedTest::inYear9);
        strips();
        ground();
        places();
        cliffs();
        tells();
        due.is("in the YEAR 9", inYear9().count(2), 9);
        yearsOutside();
        refused("13: FULL", Edge.FULL, x -> x.years(52));
        refused("15: FULL", Edge.FULL, x -> x.steady(52));
        refused("12: the YEAR is not 0", Edge.STATE, x -> x.ice(0, 0, 1));
        refused("12: the YEAR is not 0, of 0", Edge.STATE, x -> x.ice(0, 0, 0));
        in("no GROUND", RefusedTest::withoutGround);
        noGround();
        strips();
        ground();
        yearsOutside();
        in("the YEAR 60", RefusedTest::inYear60);
        for (int n : new int[] {1, 2, 60}) {
            refused("13: FULL", Edge.FULL, x -> x.years(n));
            refused("15: FULL", Edge.FULL, x -> x.steady(n));
        }
        yearsOutside();
        in("no YEAR to take back", RefusedTest::allTakenBack);
        refused("14: the latest 5 were", Edge.STATE, GlacierYears::back);
        in("the YEAR 0", RefusedTest::inYear0);
        refused("14: none went by", Edge.STATE, GlacierYears::back);
        cliffs();
        due.end();
    }

    // ---- the states, each made anew for each call.

    private static void in(String name, Supplier<GlacierYears> maker) {
        state = name;
        made = maker;
    }

    private static GlacierYears withoutGround() {
        GlacierYears x = new GlacierYears();
        for (int s = 0; s < LANES.length; s++) {
            x.strip(s, LANES[s], LENGTHS[s]);
            for (int i = 0; i < LENGTHS[s]; i++) x.put(s, i, 3000 - 900 * s + 17 * i);
        }
        x.put(0, 2, -4);
        x.strip(TORN, 1, 4);
        x.tear(TORN);
        for (int band = 0; band < 10; band++) {
            x.tell(false, band, 40 + band);
            x.tell(true, band, 11 + band);
        }
        x.rule(FRACTION, CAP);
        x.put(TORN, 0, 1);
        return x;
    }

    /** 3 by 2: cell 2, 0 is a CLIFF; 0, 0 is STEEP, 1, 0 SHADED, 0, 1 a LAKE. */
    private static GlacierYears inYear0() {
        GlacierYears x = withoutGround();
        x.ground(3, 2);
        x.kind(0, 0, 1, 60);
        x.kind(1, 0, 2, 50);
        x.kind(0, 1, 3, 40);
        x.ice(0, 0, 5000);
        x.ice(2, 1, 70);
        return x;
    }

    private static GlacierYears inYear9() {
        GlacierYears x = inYear0();
        x.years(10);
        x.back();
        return x;
    }

    private static GlacierYears inYear60() {
        GlacierYears x = inYear0();
        x.years(60);
        return x;
    }

    private static GlacierYears allTakenBack() {
        GlacierYears x = inYear0();
        x.years(10);
        for (int i = 0; i < 5; i++) x.back();
        return x;
    }

    // ---- what is told of a state.

    /** FAILURES aside. What is told of SNOW, MELT and THE CAP is told again just as it was. */
    private static long[] whole(GlacierYears x) {
        List<Long> seen = new ArrayList<>();
        for (int s = 0; s < LANES.length; s++) {
            for (int i = 0; i <= LENGTHS[s]; i++) seen.add(x.at(s, LANES[s], i));
        }
        seen.add(x.at(SEVENTH, 0, 0));
        seen.add(x.at(TORN, 1, 0));
        for (long of : Seen.withoutFailures(x)) seen.add(of);
        for (int i = 0; i < 20; i++) {
            int was = x.tell(i % 2 == 0, i / 2, 0);
            seen.add((long) was);
            x.tell(i % 2 == 0, i / 2, was);
        }
        int cap = x.rule(FRACTION, CAP);
        seen.add((long) cap);
        x.rule(FRACTION, cap);
        long[] all = new long[seen.size()];
        for (int i = 0; i < all.length; i++) all[i] = seen.get(i);
        return all;
    }

    /** What the call is answered, and that the state is as its twin's is, now, with YEARS taken back, and going on. */
    private static void refused(String what, long want, ToLongFunction<GlacierYears> call) {
        GlacierYears x = made.get();
        GlacierYears twin = made.get();
        long failures = x.count(4);
        String where = what + ", " + state;
        due.is(where, call.applyAsLong(x), want);
        due.is(where + ", the count", x.count(4) - failures, want <= Edge.NULL ? 1 : 0);
        due.holds(where + ", nothing changed", Arrays.equals(whole(x), whole(twin)));
        for (int i = 0; i < 6; i++) due.is(where + ", back", x.back(), twin.back());
        due.holds(where + ", nothing changed in what was", Arrays.equals(whole(x), whole(twin)));
        due.is(where + ", goes on", x.years(2), twin.years(2));
        due.holds(where + ", goes on alike", Arrays.equals(whole(x), whole(twin)));
    }

    // ---- the calls.

    private static void strips() {
        for (int s : Edge.NO_STRIPS) {
            refused("2: UNKNOWN", Edge.UNKNOWN, x -> x.strip(s, 3, -1));
            refused("3: UNKNOWN", Edge.UNKNOWN, x -> x.tear(s));
            refused("4: UNKNOWN", Edge.UNKNOWN, x -> x.put(s, -1, 1));
            refused("5: UNKNOWN", Edge.UNKNOWN, x -> x.at(s, 3, -1));
            refused("6: UNKNOWN, from", Edge.UNKNOWN, x -> x.copy(s, -1, TORN, -1, -1));
            refused("6: UNKNOWN, to", Edge.UNKNOWN, x -> x.copy(TORN, -1, s, -1, -1));
        }
        refused("2: OUTSIDE, a lane", Edge.OUTSIDE, x -> x.strip(0, 3, 4));
        refused("2: OUTSIDE, a lane below", Edge.OUTSIDE, x -> x.strip(0, -1, 4));
        refused("2: OUTSIDE, n", Edge.OUTSIDE, x -> x.strip(0, 1, 9));
        refused("2: OUTSIDE of a MISSING one", Edge.OUTSIDE, x -> x.strip(TORN, 1, 9));
        refused("2: OUTSIDE ahead of SIZE", Edge.OUTSIDE, x -> x.strip(0, 3, -1));
        refused("2: SIZE", Edge.SIZE, x -> x.strip(0, 1, -1));
        refused("2: SIZE of a MISSING one", Edge.SIZE, x -> x.strip(SEVENTH, 1, Edge.LEAST));
        refused("4: NULL", Edge.NULL, x -> x.put(TORN, 0, 9));
        refused("4: NULL ahead of INDEX", Edge.NULL, x -> x.put(SEVENTH, 8, 9));
        refused("4: INDEX", Edge.INDEX, x -> x.put(1, 3, 9));
        refused("4: INDEX below", Edge.INDEX, x -> x.put(1, -1, 9));
        refused("4: INDEX of no place", Edge.INDEX, x -> x.put(2, 0, 9));
        refused("5: OUTSIDE", Edge.OUTSIDE, x -> x.at(0, 3, 0));
        refused("5: OUTSIDE ahead of NULL", Edge.OUTSIDE, x -> x.at(TORN, -1, 0));
        refused("5: NULL", Edge.NULL, x -> x.at(TORN, 1, 0));
        refused("5: NULL ahead of INDEX", Edge.NULL, x -> x.at(SEVENTH, 0, -1));
        refused("5: CAST", Edge.CAST, x -> x.at(0, 1, 0));
        refused("5: CAST ahead of INDEX", Edge.CAST, x -> x.at(0, 2, 8));
        refused("5: INDEX", Edge.INDEX, x -> x.at(0, 0, 8));
        copies();
    }

    private static void copies() {
        refused("6: SIZE", Edge.SIZE, x -> x.copy(1, 0, 3, 0, -1));
        refused("6: SIZE ahead of NULL", Edge.SIZE, x -> x.copy(TORN, 0, 3, 0, -1));
        refused("6: SIZE ahead of CAST", Edge.SIZE, x -> x.copy(0, 0, 3, 0, -1));
        refused("6: SIZE ahead of INDEX", Edge.SIZE, x -> x.copy(1, -1, 3, 9, Edge.LEAST));
        refused("6: NULL, from", Edge.NULL, x -> x.copy(TORN, 0, 3, 0, 1));
        refused("6: NULL, to", Edge.NULL, x -> x.copy(1, 0, SEVENTH, 0, 1));
        refused("6: NULL ahead of INDEX", Edge.NULL, x -> x.copy(TORN, -1, 3, 9, 1));
        refused("6: CAST", Edge.CAST, x -> x.copy(0, 0, 1, 0, 1));
        refused("6: CAST ahead of INDEX", Edge.CAST, x -> x.copy(0, 8, 1, -1, 1));
        refused("6: INDEX, i", Edge.INDEX, x -> x.copy(1, -1, 3, 0, 1));
        refused("6: INDEX, j", Edge.INDEX, x -> x.copy(1, 0, 3, -1, 1));
        refused("6: INDEX, beyond one: none comes", Edge.INDEX, x -> x.copy(1, 1, 3, 0, 3));
        refused("6: INDEX, beyond the other: none comes", Edge.INDEX, x -> x.copy(3, 0, 1, 1, 3));
        refused("6: INDEX, the greatest", Edge.INDEX, x -> x.copy(3, 1, 1, 1, Edge.MOST));
        refused("6: INDEX, of none", Edge.INDEX, x -> x.copy(3, 6, 1, 0, 0));
    }

    private static void ground() {
        for (int side : new int[] {1, 9, 0, -1, Edge.LEAST, Edge.MOST}) {
            refused("7: OUTSIDE, WIDTH", Edge.OUTSIDE, x -> x.ground(side, 2));
            refused("7: OUTSIDE, HEIGHT", Edge.OUTSIDE, x -> x.ground(2, side));
        }
    }

    private static void noPlace(int px, int py) {
        refused("8: UNKNOWN", Edge.UNKNOWN, x -> x.kind(px, py, 4, 101));
        refused("9: UNKNOWN", Edge.UNKNOWN, x -> x.taken(px, py, 5, 2));
        refused("12: UNKNOWN", Edge.UNKNOWN, x -> x.ice(px, py, -1));
        refused("16: UNKNOWN", Edge.UNKNOWN, x -> x.cell(px, py, 7));
        refused("17: UNKNOWN", Edge.UNKNOWN, x -> x.layer(px, py, -1, 2));
        refused("20: UNKNOWN", Edge.UNKNOWN, x -> x.gives(px, py, 4));
    }

    private static void places() {
        int[][] none = {{-1, 0}, {0, -1}, {3, 0}, {0, 2}, {Edge.MOST, 1}, {1, Edge.LEAST}};
        for (int[] p : none) noPlace(p[0], p[1]);
        refused("8: OUTSIDE, a KIND", Edge.OUTSIDE, x -> x.kind(0, 0, 4, 0));
        refused("8: OUTSIDE, hundredths", Edge.OUTSIDE, x -> x.kind(0, 0, 2, 101));
        refused("9: OUTSIDE, a KIND", Edge.OUTSIDE, x -> x.taken(1, 1, 5, 0));
        refused("9: OUTSIDE ahead of CAST", Edge.OUTSIDE, x -> x.taken(1, 1, 4, 2));
        refused("9: CAST", Edge.CAST, x -> x.taken(1, 1, 4, 0));
        refused("9: CAST of a CLIFF", Edge.CAST, x -> x.taken(2, 0, 3, 1));
        refused("12: OUTSIDE ahead of STATE", Edge.OUTSIDE, x -> x.ice(0, 0, 1000001));
        refused("16: OUTSIDE", Edge.OUTSIDE, x -> x.cell(0, 0, 7));
        refused("17: OUTSIDE", Edge.OUTSIDE, x -> x.layer(0, 0, 0, 2));
        refused("18: OUTSIDE, what", Edge.OUTSIDE, x -> x.sum(5, 0));
        refused("18: OUTSIDE, year", Edge.OUTSIDE, x -> x.sum(0, 61));
        refused("19: OUTSIDE", Edge.OUTSIDE, x -> x.about(5));
        refused("20: OUTSIDE", Edge.OUTSIDE, x -> x.gives(0, 0, 4));
        refused("21: OUTSIDE", Edge.OUTSIDE, x -> x.turn(2));
        refused("22: OUTSIDE", Edge.OUTSIDE, x -> x.count(7));
    }

    private static void cliffs() {
        for (int kind = 0; kind <= 3; kind++) {
            int of = kind;
            refused("8: STATE", Edge.STATE, x -> x.kind(2, 0, of, 1));
        }
        refused("8: OUTSIDE ahead of STATE", Edge.OUTSIDE, x -> x.kind(2, 0, 4, 1));
        refused("8: OUTSIDE ahead of STATE", Edge.OUTSIDE, x -> x.kind(2, 0, 1, 101));
        refused("12: STATE", Edge.STATE, x -> x.ice(2, 0, 1));
        refused("12: OUTSIDE ahead of STATE", Edge.OUTSIDE, x -> x.ice(2, 0, -1));
        refused("16: STATE", Edge.STATE, x -> x.cell(2, 0, 1));
        refused("16: OUTSIDE ahead of STATE", Edge.OUTSIDE, x -> x.cell(2, 0, -1));
        refused("17: STATE", Edge.STATE, x -> x.layer(2, 0, 0, 0));
        refused("17: OUTSIDE ahead of STATE", Edge.OUTSIDE, x -> x.layer(2, 0, 0, -1));
        refused("20: STATE", Edge.STATE, x -> x.gives(2, 0, 0));
        refused("20: OUTSIDE ahead of STATE", Edge.OUTSIDE, x -> x.gives(2, 0, -1));
    }

    private static void tells() {
        for (int i = 0; i <= 1; i++) {
            boolean melt = i == 1;
            refused("10: OUTSIDE, a BAND below", Edge.OUTSIDE, x -> x.tell(melt, -1, 5));
            refused("10: OUTSIDE, a BAND above", Edge.OUTSIDE, x -> x.tell(melt, 10, 5));
            refused("10: OUTSIDE, grains below", Edge.OUTSIDE, x -> x.tell(melt, 5, -1));
            refused("10: OUTSIDE, grains above", Edge.OUTSIDE, x -> x.tell(melt, 5, 100001));
        }
        refused("11: OUTSIDE, a FRACTION below", Edge.OUTSIDE, x -> x.rule(-1, 5));
        refused("11: OUTSIDE, a FRACTION above", Edge.OUTSIDE, x -> x.rule(101, 5));
        refused("11: OUTSIDE, a CAP below", Edge.OUTSIDE, x -> x.rule(5, 0));
        refused("11: OUTSIDE, a CAP above", Edge.OUTSIDE, x -> x.rule(5, 1000001));
    }

    private static void yearsOutside() {
        for (int n : Edge.beside(1, 60)) {
            refused("13: OUTSIDE ahead of STATE and FULL", Edge.OUTSIDE, x -> x.years(n));
            refused("15: OUTSIDE ahead of STATE and FULL", Edge.OUTSIDE, x -> x.steady(n));
        }
    }

    private static void noGround() {
        noPlace(0, 0);
        refused("13: STATE", Edge.STATE, x -> x.years(1));
        refused("14: STATE", Edge.STATE, GlacierYears::back);
        refused("15: STATE", Edge.STATE, x -> x.steady(60));
        refused("18: STATE", Edge.STATE, x -> x.sum(0, 0));
        refused("18: OUTSIDE ahead of STATE", Edge.OUTSIDE, x -> x.sum(0, 61));
        refused("19: STATE", Edge.STATE, x -> x.about(0));
        refused("19: OUTSIDE ahead of STATE", Edge.OUTSIDE, x -> x.about(5));
        refused("21: STATE", Edge.STATE, x -> x.turn(1));
        refused("21: OUTSIDE ahead of STATE", Edge.OUTSIDE, x -> x.turn(2));
    }
}
