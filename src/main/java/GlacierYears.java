import java.util.Arrays;

/** Ice on a mountain in whole grains. The document, DOC.md, says what each call answers. */
public final class GlacierYears {
    public static final int UNKNOWN = -1, OUTSIDE = -2, STATE = -3, FULL = -4, NONE = -9;

    private static final int NULL = 1, INDEX = 2, CAST = 3, SIZE = 4;
    private static final int SHORTS = 0, INTS = 1, LONGS = 2;
    private static final int STRIPS = 8, STRIP_PLACES = 8;

    private static final int CELL = 0, STEEP = 1, SHADED = 2, LAKE = 3, CLIFF = 4;
    private static final int LEAST_SIDE = 2, MOST_SIDE = 8, PLACES = MOST_SIDE * MOST_SIDE;
    private static final int MOST_LEVEL = 9999, BAND_HEIGHT = 1000, BANDS = 10;
    private static final int SIDES = 4, NO_PLACE = -1;

    private static final int LAST_YEAR = 60, YEARS = LAST_YEAR + 1, YEARS_KEPT = 5;
    private static final int LYING = 0, MELTED = 1, FALLEN = 2, FLOATED = 3, CAME = 4, TALLIES = 5;

    private static final int MOST_TOLD = 100000, MOST_ICE = 1000000, MOST_CAP = 1000000;
    private static final int WHOLE = 100, PART_GIVEN = 8;

    private final Strip[] strips = new Strip[STRIPS];
    private final Told told = new Told();
    private final Land land = new Land();
    private final Ice ice = new Ice();
    private final Past past = new Past();
    // Scratch rows, made once, since all calls of a run share one room.
    private final Land oldLand = new Land();
    private final Ice oldIce = new Ice();
    private final long[] gifts = new long[PLACES * SIDES];
    private final long[] seen = new long[YEARS * PLACES];
    private int failures;

    public GlacierYears() {
        for (int i = 0; i < STRIPS; i++) {
            strips[i] = new Strip();
        }
    }

    // ---- strips, ground.

    public int strip(int strip, int lane, int n) {
        if (!isStrip(strip)) return UNKNOWN;
        if (!isLane(lane) || n > STRIP_PLACES) return OUTSIDE;
        if (n < 0) return fail(SIZE);
        strips[strip].begin(lane, n);
        return n;
    }

    public int tear(int strip) {
        if (!isStrip(strip)) return UNKNOWN;
        boolean was = strips[strip].missing;
        strips[strip].end();
        return was ? 1 : 0;
    }

    public int put(int strip, int i, long v) {
        if (!isStrip(strip)) return UNKNOWN;
        Strip row = strips[strip];
        if (row.missing) return fail(NULL);
        if (!row.has(i)) return fail(INDEX);
        row.store(i, v);
        return 1;
    }

    public long at(int strip, int lane, int i) {
        if (!isStrip(strip)) return UNKNOWN;
        if (!isLane(lane)) return OUTSIDE;
        Strip row = strips[strip];
        if (row.missing) return fail(NULL);
        if (row.lane != lane) return fail(CAST);
        if (!row.has(i)) return fail(INDEX);
        return row.places[i];
    }

    public int copy(int from, int i, int to, int j, int n) {
        if (!isStrip(from) || !isStrip(to)) return UNKNOWN;
        if (n < 0) return fail(SIZE);
        Strip source = strips[from];
        Strip target = strips[to];
        if (source.missing || target.missing) return fail(NULL);
        if (source.lane != target.lane) return fail(CAST);
        if (!source.hasAll(i, n) || !target.hasAll(j, n)) return fail(INDEX);
        System.arraycopy(source.places, i, target.places, j, n);
        return n;
    }

    public int ground(int width, int height) {
        if (!isSide(width) || !isSide(height)) return OUTSIDE;
        land.begin(width, height);
        for (int y = 0; y < height; y++) {
            for (int x = 0; x < width; x++) {
                land.settle(x, y, levelFromStrips(x, y));
            }
        }
        ice.clear();
        past.forget();
        return land.cliffs();
    }

    public int kind(int x, int y, int kind, int hundredths) {
        int place = land.placeAt(x, y);
        if (place == NO_PLACE) return UNKNOWN;
        if (kind < CELL || kind > LAKE) return OUTSIDE;
        if (kind != CELL && !isHundredths(hundredths)) return OUTSIDE;
        if (land.kinds[place] == CLIFF) return STATE;
        int had = land.kinds[place];
        land.kinds[place] = kind;
        land.hundredths[place] = kind == CELL ? 0 : hundredths;
        past.forget();
        return had;
    }

    public int taken(int x, int y, int kind, int what) {
        int place = land.placeAt(x, y);
        if (place == NO_PLACE) return UNKNOWN;
        if (kind < CELL || kind > CLIFF || what < 0 || what > 1) return OUTSIDE;
        if (!countsAs(land.kinds[place], kind)) return fail(CAST);
        return what == 0 ? land.kinds[place] : land.hundredths[place];
    }

    public int tell(boolean melt, int band, int grains) {
        if (band < 0 || band >= BANDS || grains < 0 || grains > MOST_TOLD) return OUTSIDE;
        int[] row = melt ? told.melt : told.snow;
        int was = row[band];
        row[band] = grains;
        return was;
    }

    public int rule(int fraction, int cap) {
        if (!isHundredths(fraction) || cap < 1 || cap > MOST_CAP) return OUTSIDE;
        int was = told.cap;
        told.fraction = fraction;
        told.cap = cap;
        return was;
    }

    public long ice(int x, int y, int grains) {
        int place = land.placeAt(x, y);
        if (place == NO_PLACE) return UNKNOWN;
        if (grains < 0 || grains > MOST_ICE) return OUTSIDE;
        // In the YEAR 0 no YEAR is kept that could be taken back, so none is forgotten here.
        if (land.kinds[place] == CLIFF || ice.year != 0) return STATE;
        ice.arrive(place, 0, grains);
        return ice.thicknesses[place];
    }

    // ---- years.

    public int years(int n) {
        int refusal = refusalOfYears(n);
        if (refusal != 0) return refusal;
        for (int i = 0; i < n; i++) {
            passYear();
        }
        return ice.year;
    }

    public int back() {
        if (past.kept == 0) return STATE;
        past.restore(ice);
        return ice.year;
    }

    public int steady(int n) {
        int refusal = refusalOfYears(n);
        if (refusal != 0) return refusal;
        remember(0);
        for (int i = 1; i <= n; i++) {
            passYear();
            int between = yearsSinceAlike(i);
            if (between > 0) return between;
            remember(i);
        }
        return 0;
    }

    // ---- what is told.

    public long cell(int x, int y, int what) {
        int place = land.placeAt(x, y);
        if (place == NO_PLACE) return UNKNOWN;
        if (what < 0 || what > 6) return OUTSIDE;
        if (land.kinds[place] == CLIFF) return STATE;
        switch (what) {
            case 0: return land.levels[place];
            case 1: return ice.thicknesses[place];
            case 2: return surface(place);
            case 3: return ice.layerCount(place);
            case 4: return ice.layerYear(place, 0);
            case 5: return ice.layerYear(place, ice.layerCount(place) - 1);
            default: return land.band(place);
        }
    }

    public long layer(int x, int y, int i, int what) {
        int place = land.placeAt(x, y);
        if (place == NO_PLACE) return UNKNOWN;
        if (what < 0 || what > 1) return OUTSIDE;
        if (land.kinds[place] == CLIFF) return STATE;
        int year = ice.layerYear(place, i);
        if (year == NONE || what == 0) return year;
        return ice.grains[place * YEARS + year];
    }

    public long sum(int what, int year) {
        if (what < LYING || what > CAME) return OUTSIDE;
        if (year != NONE && (year < 0 || year > LAST_YEAR)) return OUTSIDE;
        if (!land.lies()) return STATE;
        return year == NONE ? ice.tallyOfAll(what) : ice.tallies[what * YEARS + year];
    }

    public long about(int what) {
        if (what < 0 || what > 4) return OUTSIDE;
        if (!land.lies()) return STATE;
        int thickest = thickestPlace();
        switch (what) {
            case 0: return icyCells();
            case 1: return thickest == NO_PLACE ? 0 : ice.thicknesses[thickest];
            case 2: return lowestIceSurface();
            case 3: return ice.oldestYear();
            default: return thickest == NO_PLACE ? NONE : thickest;
        }
    }

    public long gives(int x, int y, int side) {
        int place = land.placeAt(x, y);
        if (place == NO_PLACE) return UNKNOWN;
        if (side < 0 || side >= SIDES) return OUTSIDE;
        if (land.kinds[place] == CLIFF) return STATE;
        return gift(place, side);
    }

    public int turn(int how) {
        if (how < 0 || how > 1) return OUTSIDE;
        if (!land.lies()) return STATE;
        oldLand.becomeCellsOf(land);
        oldIce.become(ice);
        turnCells(how == 1);
        past.forget();
        return land.width;
    }

    public int count(int what) {
        switch (what) {
            case 0: return land.width;
            case 1: return land.height;
            case 2: return ice.year;
            case 3: return past.kept;
            case 4: return failures;
            case 5: return land.cliffs();
            case 6: return stripsThere();
            default: return OUTSIDE;
        }
    }

    // ---- what the calls share.

    private int fail(int number) {
        failures++;
        return -10 - number;
    }

    private static boolean isStrip(int strip) {
        return strip >= 0 && strip < STRIPS;
    }

    private static boolean isLane(int lane) {
        return lane >= SHORTS && lane <= LONGS;
    }

    private static boolean isSide(int length) {
        return length >= LEAST_SIDE && length <= MOST_SIDE;
    }

    private static boolean isHundredths(int number) {
        return number >= 0 && number <= WHOLE;
    }

    private static boolean countsAs(int own, int asked) {
        return own == asked || asked == CELL || (asked == SHADED && own == LAKE) || (asked == STEEP && own == CLIFF);
    }

    private int stripsThere() {
        int there = 0;
        for (int i = 0; i < STRIPS; i++) {
            if (!strips[i].missing) there++;
        }
        return there;
    }

    /** Below 0, and so no LEVEL, where the STRIP tells none. */
    private long levelFromStrips(int x, int y) {
        Strip row = strips[y];
        return !row.missing && row.has(x) ? row.places[x] : -1;
    }

    private long surface(int place) {
        return land.levels[place] + ice.thicknesses[place];
    }

    // ---- a year.

    /** 0 where n YEARS may go by. */
    private int refusalOfYears(int n) {
        if (n < 1 || n > LAST_YEAR) return OUTSIDE;
        if (!land.lies()) return STATE;
        return ice.year + n > LAST_YEAR ? FULL : 0;
    }

    private void passYear() {
        past.keep(ice);
        ice.year++;
        snowAndMelt();
        moveIce();
        floatIce();
    }

    private void snowAndMelt() {
        for (int i = 0; i < land.openCells; i++) {
            int place = land.open[i];
            int band = land.band(place);
            ice.arrive(place, ice.year, told.snow[band]);
            ice.lose(place, land.meltLeft(place, told.melt[band]), MELTED);
        }
    }

    /** All gifts are reckoned before the first is taken, so that none sees what another moved. */
    private void moveIce() {
        for (int i = 0; i < land.openCells; i++) {
            int place = land.open[i];
            for (int side = 0; side < SIDES; side++) {
                gifts[place * SIDES + side] = gift(place, side);
            }
        }
        oldIce.become(ice);
        for (int i = 0; i < land.openCells; i++) {
            int place = land.open[i];
            for (int side = 0; side < SIDES; side++) {
                hand(place, land.neighbour(place, side), gifts[place * SIDES + side]);
            }
        }
    }

    private long gift(int place, int side) {
        int neighbour = land.neighbour(place, side);
        long thickness = ice.thicknesses[place];
        if (neighbour == NO_PLACE || thickness == 0) return 0;
        boolean falls = land.kinds[neighbour] == CLIFF;
        long drop = falls ? thickness : surface(place) - surface(neighbour);
        if (drop <= 0) return 0;
        long fraction = land.kinds[place] == STEEP ? land.hundredths[place] : told.fraction;
        long moved = fraction * drop * Math.min(told.cap, thickness) / WHOLE;
        return Math.min(moved, Math.min(drop, thickness) / PART_GIVEN);
    }

    /** The old ice tells what is left to give: what has just come to a place does not go on from it. */
    private void hand(int place, int neighbour, long grains) {
        if (neighbour == NO_PLACE) return;
        long due = grains;
        for (int year = ice.year; year >= 0 && due > 0; year--) {
            long part = Math.min(due, oldIce.grains[place * YEARS + year]);
            if (part == 0) continue;
            oldIce.lift(place, year, part);
            ice.lift(place, year, part);
            if (land.kinds[neighbour] == CLIFF) {
                ice.tallies[FALLEN * YEARS + year] += part;
            } else {
                ice.lay(neighbour, year, part);
            }
            due -= part;
        }
    }

    private void floatIce() {
        for (int i = 0; i < land.openCells; i++) {
            int place = land.open[i];
            if (land.kinds[place] == LAKE) {
                ice.lose(place, ice.thicknesses[place], FLOATED);
            }
        }
    }

    // ---- steady.

    private void remember(int row) {
        System.arraycopy(ice.thicknesses, 0, seen, row * PLACES, PLACES);
    }

    /** How many YEARS before the row to come the ice lay as it lies now; 0: in none. */
    private int yearsSinceAlike(int rows) {
        for (int row = rows - 1; row >= 0; row--) {
            if (liesAsIn(row)) return rows - row;
        }
        return 0;
    }

    private boolean liesAsIn(int row) {
        for (int i = 0; i < land.openCells; i++) {
            int place = land.open[i];
            if (seen[row * PLACES + place] != ice.thicknesses[place]) return false;
        }
        return true;
    }

    // ---- about.

    private int icyCells() {
        int icy = 0;
        for (int i = 0; i < land.openCells; i++) {
            if (ice.thicknesses[land.open[i]] > 0) icy++;
        }
        return icy;
    }

    private int thickestPlace() {
        int thickest = NO_PLACE;
        long most = 0;
        for (int i = 0; i < land.openCells; i++) {
            int place = land.open[i];
            if (ice.thicknesses[place] > most) {
                most = ice.thicknesses[place];
                thickest = place;
            }
        }
        return thickest;
    }

    private long lowestIceSurface() {
        long lowest = NONE;
        for (int i = 0; i < land.openCells; i++) {
            int place = land.open[i];
            if (ice.thicknesses[place] > 0 && (lowest == NONE || surface(place) < lowest)) {
                lowest = surface(place);
            }
        }
        return lowest;
    }

    // ---- turn. The new cells are laid row by row, as the list of open cells wants them.

    private void turnCells(boolean quarter) {
        land.begin(quarter ? oldLand.height : oldLand.width, quarter ? oldLand.width : oldLand.height);
        for (int y = 0; y < land.height; y++) {
            for (int x = 0; x < land.width; x++) {
                int across = land.width - 1 - x;
                fetchCell(x, y, quarter ? oldLand.placeAt(y, across) : oldLand.placeAt(across, y));
            }
        }
    }

    private void fetchCell(int x, int y, int from) {
        int place = land.placeAt(x, y);
        if (place == NO_PLACE || from == NO_PLACE) return;
        land.settleAs(place, oldLand, from);
        ice.settleAs(place, oldIce, from);
    }

    // ---- the classes inside.

    /** A row of numbers of a LANE. They are held as longs, cut to their LANE as they come in. */
    private static final class Strip {
        final long[] places = new long[STRIP_PLACES];
        boolean missing = true;
        int lane;
        int length;

        void begin(int newLane, int newLength) {
            missing = false;
            lane = newLane;
            length = newLength;
            Arrays.fill(places, 0L);
        }

        void end() {
            missing = true;
        }

        boolean has(int i) {
            return i >= 0 && i < length;
        }

        /** Takes n from the length instead of adding it to i, which could wrap around. */
        boolean hasAll(int i, int n) {
            return i >= 0 && i <= length - n;
        }

        void store(int i, long number) {
            if (lane == SHORTS) {
                places[i] = (short) number;
            } else if (lane == INTS) {
                places[i] = (int) number;
            } else {
                places[i] = number;
            }
        }
    }

    /** What is told of all YEARS to come. */
    private static final class Told {
        final int[] snow = new int[BANDS];
        final int[] melt = new int[BANDS];
        int fraction;
        int cap = 1000;
    }

    /** THE GROUND; place 8 y and x holds cell x, y. Without one, WIDTH and HEIGHT are 0. */
    private static final class Land {
        final int[] levels = new int[PLACES];
        final int[] kinds = new int[PLACES];
        final int[] hundredths = new int[PLACES];
        // The places that are no CLIFFS, row by row.
        final int[] open = new int[PLACES];
        int openCells;
        int width;
        int height;

        boolean lies() {
            return width > 0;
        }

        int placeAt(int x, int y) {
            return x >= 0 && x < width && y >= 0 && y < height ? y * MOST_SIDE + x : NO_PLACE;
        }

        int neighbour(int place, int side) {
            int x = place % MOST_SIDE;
            int y = place / MOST_SIDE;
            switch (side) {
                case 0: return placeAt(x, y - 1);
                case 1: return placeAt(x + 1, y);
                case 2: return placeAt(x, y + 1);
                default: return placeAt(x - 1, y);
            }
        }

        int cliffs() {
            return width * height - openCells;
        }

        int band(int place) {
            return levels[place] / BAND_HEIGHT;
        }

        long meltLeft(int place, long melt) {
            boolean shares = kinds[place] == SHADED || kinds[place] == LAKE;
            return shares ? melt - melt * hundredths[place] / WHOLE : melt;
        }

        void begin(int newWidth, int newHeight) {
            width = newWidth;
            height = newHeight;
            openCells = 0;
        }

        void settle(int x, int y, long level) {
            int place = placeAt(x, y);
            if (place == NO_PLACE) return;
            boolean isLevel = level >= 0 && level <= MOST_LEVEL;
            levels[place] = isLevel ? (int) level : 0;
            kinds[place] = isLevel ? CELL : CLIFF;
            hundredths[place] = 0;
            listIfOpen(place);
        }

        void settleAs(int place, Land other, int from) {
            levels[place] = other.levels[from];
            kinds[place] = other.kinds[from];
            hundredths[place] = other.hundredths[from];
            listIfOpen(place);
        }

        private void listIfOpen(int place) {
            if (kinds[place] != CLIFF && openCells < PLACES) {
                open[openCells] = place;
                openCells++;
            }
        }

        /** The cells alone: they are listed as they settle. */
        void becomeCellsOf(Land other) {
            width = other.width;
            height = other.height;
            System.arraycopy(other.levels, 0, levels, 0, PLACES);
            System.arraycopy(other.kinds, 0, kinds, 0, PLACES);
            System.arraycopy(other.hundredths, 0, hundredths, 0, PLACES);
        }
    }

    /** The YEAR, the grains of each YEAR in each place, and the sums of grains by YEAR. */
    private static final class Ice {
        final long[] grains = new long[PLACES * YEARS];
        final long[] thicknesses = new long[PLACES];
        final long[] tallies = new long[TALLIES * YEARS];
        int year;

        void clear() {
            year = 0;
            Arrays.fill(grains, 0L);
            Arrays.fill(thicknesses, 0L);
            Arrays.fill(tallies, 0L);
        }

        void become(Ice other) {
            year = other.year;
            System.arraycopy(other.grains, 0, grains, 0, PLACES * YEARS);
            System.arraycopy(other.thicknesses, 0, thicknesses, 0, PLACES);
            System.arraycopy(other.tallies, 0, tallies, 0, TALLIES * YEARS);
        }

        void settleAs(int place, Ice other, int from) {
            System.arraycopy(other.grains, from * YEARS, grains, place * YEARS, YEARS);
            thicknesses[place] = other.thicknesses[from];
        }

        void lay(int place, int ofYear, long n) {
            grains[place * YEARS + ofYear] += n;
            thicknesses[place] += n;
            tallies[LYING * YEARS + ofYear] += n;
        }

        void lift(int place, int ofYear, long n) {
            lay(place, ofYear, -n);
        }

        void arrive(int place, int ofYear, long n) {
            lay(place, ofYear, n);
            tallies[CAME * YEARS + ofYear] += n;
        }

        /** From the top LAYER down, as far as there is ice. */
        void lose(int place, long n, int tally) {
            long due = n;
            for (int ofYear = year; ofYear >= 0 && due > 0; ofYear--) {
                long part = Math.min(due, grains[place * YEARS + ofYear]);
                lift(place, ofYear, part);
                tallies[tally * YEARS + ofYear] += part;
                due -= part;
            }
        }

        int layerCount(int place) {
            int layers = 0;
            for (int ofYear = 0; ofYear <= year; ofYear++) {
                if (grains[place * YEARS + ofYear] > 0) layers++;
            }
            return layers;
        }

        /** The YEAR of LAYER i from the top, only those with ice being LAYERS. */
        int layerYear(int place, int i) {
            int above = 0;
            for (int ofYear = year; ofYear >= 0; ofYear--) {
                if (grains[place * YEARS + ofYear] > 0) {
                    if (above == i) return ofYear;
                    above++;
                }
            }
            return NONE;
        }

        int oldestYear() {
            for (int ofYear = 0; ofYear <= year; ofYear++) {
                if (tallies[LYING * YEARS + ofYear] > 0) return ofYear;
            }
            return NONE;
        }

        long tallyOfAll(int tally) {
            long all = 0;
            for (int ofYear = 0; ofYear <= year; ofYear++) {
                all += tallies[tally * YEARS + ofYear];
            }
            return all;
        }
    }

    /** The ice as it stood ahead of the latest YEARS; the oldest makes room. */
    private static final class Past {
        final Ice[] ring = new Ice[YEARS_KEPT];
        int next;
        int kept;

        Past() {
            for (int i = 0; i < YEARS_KEPT; i++) {
                ring[i] = new Ice();
            }
        }

        void keep(Ice ice) {
            ring[next].become(ice);
            next = (next + 1) % YEARS_KEPT;
            if (kept < YEARS_KEPT) kept++;
        }

        void restore(Ice ice) {
            next = (next + YEARS_KEPT - 1) % YEARS_KEPT;
            ice.become(ring[next]);
            kept--;
        }

        void forget() {
            kept = 0;
        }
    }
}
