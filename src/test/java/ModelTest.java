/** Long runs of calls, always the same ones, on the program and on the model: each answer must be alike. */
public final class ModelTest {
    private static final Due due = new Due("ModelTest");
    private static final int RUNS = 400, CALLS = 300;

    private static long seed;
    private static GlacierYears x;
    private static Model m;
    private static int run;
    private static int periods;

    public static void main(String[] args) {
        for (run = 0; run < RUNS; run++) {
            seed = run * 7919L + 17;
            x = new GlacierYears();
            m = new Model();
            if (run % 8 != 0) mountain();
            for (int call = 0; call < CALLS; call++) oneCall();
            everything();
        }
        due.holds("some run came back after more than one YEAR", periods > 0);
        due.end();
    }

    /** The next of a fixed row of numbers, least .. most. */
    private static int next(int least, int most) {
        seed = seed * 6364136223846793005L + 1442695040888963407L;
        return least + (int) ((seed >>> 33) % (most - least + 1));
    }

    /** Mostly a number that is right, at times one near the edge or far off. */
    private static int about(int least, int most) {
        int how = next(0, 39);
        if (how == 0) return least - 1;
        if (how == 1) return most + 1;
        if (how == 2) return next(0, 1) == 0 ? Integer.MIN_VALUE : Integer.MAX_VALUE;
        if (how == 3) return least;
        if (how == 4) return most;
        return next(least, most);
    }

    private static void is(String what, long got, long want) {
        due.is("run " + run + ": " + what, got, want);
    }

    private static int level() {
        int how = next(0, 9);
        if (how == 0) return next(-3, 3);
        if (how == 1) return next(9990, 10010);
        return run % 3 == 0 ? next(0, 150) : next(0, 9999);
    }

    private static void mountain() {
        for (int i = 0; i < 8; i++) {
            int n = next(0, 9) == 0 ? next(0, 8) : 8;
            int lane = next(0, 2);
            is("strip", x.strip(i, lane, n), m.strip(i, lane, n));
            for (int k = 0; k < n; k++) {
                int v = level();
                is("put", x.put(i, k, v), m.put(i, k, v));
            }
        }
        int width = next(2, 8);
        int height = next(2, 8);
        is("ground", x.ground(width, height), m.ground(width, height));
        for (int i = 0; i < 20; i++) shape();
        for (int i = 0; i < 12; i++) oneTell();
        oneRule();
        everything();
    }

    private static void shape() {
        int px = next(0, 7);
        int py = next(0, 7);
        int hundredths = about(0, 100);
        int kind = next(0, 3);
        int grains = next(0, 3) == 0 ? next(0, 1000000) : next(0, 3000);
        if (next(0, 1) == 0) is("kind", x.kind(px, py, kind, hundredths), m.kind(px, py, kind, hundredths));
        else is("ice", x.ice(px, py, grains), m.ice(px, py, grains));
    }

    private static void oneTell() {
        boolean melt = next(0, 1) == 0;
        int band = about(0, 9);
        int how = next(0, 3);
        int grains = how == 0 ? about(0, 100000) : how == 1 ? next(0, 9) : next(0, 200);
        is("tell", x.tell(melt, band, grains), m.tell(melt, band, grains));
    }

    private static void oneRule() {
        int fraction = next(0, 2) == 0 ? next(0, 5) : about(0, 100);
        int cap = next(0, 2) == 0 ? next(1, 9) : about(1, 1000000);
        is("rule", x.rule(fraction, cap), m.rule(fraction, cap));
    }

    private static void oneCall() {
        int a = about(0, 7);
        int b = about(0, 7);
        int c = about(0, 4);
        int d = about(0, 8);
        int e = about(0, 8);
        switch (next(0, 27)) {
            case 0: if (next(0, 3) == 0) is("strip", x.strip(a, c % 3, d), m.strip(a, c % 3, d)); break;
            case 1: if (next(0, 9) == 0) is("tear", x.tear(a), m.tear(a)); break;
            case 2: put(a, d); break;
            case 3: is("at", x.at(a, c % 3, d), m.at(a, c % 3, d)); break;
            case 4: is("copy", x.copy(a, c, b, d % 3, e % 4), m.copy(a, c, b, d % 3, e % 4)); break;
            case 5: if (next(0, 5) == 0) is("ground", x.ground(a, b), m.ground(a, b)); break;
            case 6: case 7: case 8: shape(); break;
            case 9: is("taken", x.taken(a, b, c, d % 2), m.taken(a, b, c, d % 2)); break;
            case 10: case 11: oneTell(); break;
            case 12: oneRule(); break;
            case 13: case 14: case 15: case 16: is("years", x.years(c), m.years(c)); break;
            case 17: case 18: is("back", x.back(), m.back()); break;
            case 19: steady(about(1, next(0, 3) == 0 ? 60 : 12)); break;
            case 20: is("cell", x.cell(a, b, d), m.cell(a, b, d)); break;
            case 21: is("layer", x.layer(a, b, d, c % 2), m.layer(a, b, d, c % 2)); break;
            case 22: sum(c); break;
            case 23: is("about", x.about(c), m.about(c)); break;
            case 24: is("gives", x.gives(a, b, c), m.gives(a, b, c)); break;
            case 25: if (next(0, 3) == 0) is("turn", x.turn(e % 2), m.turn(e % 2)); break;
            case 26: is("count", x.count(d), m.count(d)); break;
            default: if (next(0, 9) == 0) everything();
        }
    }

    private static void put(int strip, int i) {
        long v = next(0, 1) == 0 ? level() : (long) next(0, 70000) * next(-40000, 70000) * next(-3, 3) * next(1, 90000);
        is("put", x.put(strip, i, v), m.put(strip, i, v));
    }

    private static void steady(int n) {
        int years = x.steady(n);
        if (years > 1) periods++;
        is("steady", years, m.steady(n));
    }

    private static void sum(int what) {
        int year = next(0, 3) == 0 ? -9 : about(0, 60);
        is("sum", x.sum(what, year), m.sum(what, year));
    }

    private static void everything() {
        for (int what = -1; what <= 7; what++) is("count " + what, x.count(what), m.count(what));
        for (int what = -1; what <= 5; what++) {
            is("about " + what, x.about(what), m.about(what));
            for (int year = -9; year <= 61; year++) is("sum " + what, x.sum(what, year), m.sum(what, year));
        }
        for (int py = 0; py <= 8; py++) {
            for (int px = 0; px <= 8; px++) place(px, py);
        }
    }

    private static void place(int px, int py) {
        String at = px + " " + py + ": ";
        for (int what = -1; what <= 7; what++) is(at + "cell " + what, x.cell(px, py, what), m.cell(px, py, what));
        for (int side = -1; side <= 4; side++) is(at + "gives " + side, x.gives(px, py, side), m.gives(px, py, side));
        for (int what = 0; what <= 1; what++) {
            is(at + "taken", x.taken(px, py, 0, what), m.taken(px, py, 0, what));
            int layers = (int) m.cell(px, py, 3);
            for (int i = -1; i <= layers; i++) is(at + "layer " + i, x.layer(px, py, i, what), m.layer(px, py, i, what));
        }
    }
}
