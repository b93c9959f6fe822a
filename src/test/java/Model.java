import java.math.BigInteger;
import java.util.ArrayList;
import java.util.HashMap;
import java.util.List;
import java.util.Map;
import java.util.TreeMap;

/** The document once more, in its plainest form and with the whole Java library, to hold the program against. */
final class Model {
    private static final int UNKNOWN = -1, OUTSIDE = -2, STATE = -3, FULL = -4, NONE = -9;

    /** A cell of any KIND: its LAYERS are grains by YEAR. */
    private static final class Cell {
        int level;
        int kind;
        int hundredths;
        TreeMap<Integer, Long> layers = new TreeMap<>();

        long thickness() {
            long all = 0;
            for (long grains : layers.values()) all += grains;
            return all;
        }

        long surface() {
            return level + thickness();
        }

        void add(int year, long grains) {
            layers.merge(year, grains, Long::sum);
            layers.values().removeIf(left -> left == 0);
        }

        /** Takes so much from the top down, as far as there is; what was taken, by YEAR. */
        TreeMap<Integer, Long> take(long grains) {
            TreeMap<Integer, Long> taken = new TreeMap<>();
            while (grains > 0 && !layers.isEmpty()) {
                int top = layers.lastKey();
                long part = Math.min(grains, layers.get(top));
                taken.put(top, part);
                add(top, -part);
                grains -= part;
            }
            return taken;
        }
    }

    /** All that a YEAR changes. */
    private static final class Snapshot {
        int year;
        List<TreeMap<Integer, Long>> layers = new ArrayList<>();
        List<TreeMap<Integer, Long>> sums = new ArrayList<>();
    }

    private final List<long[]> rows = new ArrayList<>();
    private final int[] lanes = new int[8];
    private Cell[][] cells;
    private int year;
    private List<TreeMap<Integer, Long>> sums = noSums();
    private List<Snapshot> past = new ArrayList<>();
    private final Map<Integer, Integer> snow = new HashMap<>();
    private final Map<Integer, Integer> melt = new HashMap<>();
    private int fraction = 0;
    private int cap = 1000;
    private int failures = 0;

    Model() {
        for (int i = 0; i < 8; i++) rows.add(null);
    }

    private static List<TreeMap<Integer, Long>> noSums() {
        List<TreeMap<Integer, Long>> none = new ArrayList<>();
        for (int i = 0; i < 4; i++) none.add(new TreeMap<>());
        return none;
    }

    private static boolean among(long n, long least, long most) {
        return n >= least && n <= most;
    }

    private int failure(int number) {
        failures++;
        return -10 - number;
    }

    private Cell cellAt(int x, int y) {
        if (cells == null || !among(y, 0, cells.length - 1) || !among(x, 0, cells[0].length - 1)) return null;
        return cells[y][x];
    }

    int strip(int strip, int lane, int n) {
        if (!among(strip, 0, 7)) return UNKNOWN;
        if (!among(lane, 0, 2) || n > 8) return OUTSIDE;
        if (n < 0) return failure(4);
        rows.set(strip, new long[n]);
        lanes[strip] = lane;
        return n;
    }

    int tear(int strip) {
        if (!among(strip, 0, 7)) return UNKNOWN;
        return rows.set(strip, null) == null ? 1 : 0;
    }

    int put(int strip, int i, long v) {
        if (!among(strip, 0, 7)) return UNKNOWN;
        if (rows.get(strip) == null) return failure(1);
        if (!among(i, 0, rows.get(strip).length - 1)) return failure(2);
        int bits = new int[] {16, 32, 64}[lanes[strip]];
        BigInteger low = BigInteger.valueOf(v).mod(BigInteger.TWO.pow(bits));
        rows.get(strip)[i] = low.testBit(bits - 1) ? low.subtract(BigInteger.TWO.pow(bits)).longValueExact() : low.longValueExact();
        return 1;
    }

    long at(int strip, int lane, int i) {
        if (!among(strip, 0, 7)) return UNKNOWN;
        if (!among(lane, 0, 2)) return OUTSIDE;
        if (rows.get(strip) == null) return failure(1);
        if (lanes[strip] != lane) return failure(3);
        if (!among(i, 0, rows.get(strip).length - 1)) return failure(2);
        return rows.get(strip)[i];
    }

    int copy(int from, int i, int to, int j, int n) {
        if (!among(from, 0, 7) || !among(to, 0, 7)) return UNKNOWN;
        if (n < 0) return failure(4);
        if (rows.get(from) == null || rows.get(to) == null) return failure(1);
        if (lanes[from] != lanes[to]) return failure(3);
        long[] target = rows.get(to);
        long[] ahead = rows.get(from).clone();
        if (i < 0 || j < 0 || (long) i + n > ahead.length || (long) j + n > target.length) return failure(2);
        for (int k = 0; k < n; k++) target[j + k] = ahead[i + k];
        return n;
    }

    int ground(int width, int height) {
        if (!among(width, 2, 8) || !among(height, 2, 8)) return OUTSIDE;
        cells = new Cell[height][width];
        for (int y = 0; y < height; y++) {
            for (int x = 0; x < width; x++) {
                Cell cell = new Cell();
                long[] row = rows.get(y);
                boolean levelled = row != null && x < row.length && among(row[x], 0, 9999);
                cell.kind = levelled ? 0 : 4;
                cell.level = levelled ? (int) row[x] : 0;
                cells[y][x] = cell;
            }
        }
        sums = noSums();
        year = 0;
        past.clear();
        return count(5);
    }

    int kind(int x, int y, int kind, int hundredths) {
        Cell cell = cellAt(x, y);
        if (cell == null) return UNKNOWN;
        if (!among(kind, 0, 3) || (kind > 0 && !among(hundredths, 0, 100))) return OUTSIDE;
        if (cell.kind == 4) return STATE;
        int had = cell.kind;
        cell.kind = kind;
        cell.hundredths = hundredths;
        past.clear();
        return had;
    }

    int taken(int x, int y, int kind, int what) {
        Cell cell = cellAt(x, y);
        if (cell == null) return UNKNOWN;
        if (!among(kind, 0, 4) || !among(what, 0, 1)) return OUTSIDE;
        boolean is = kind == 0 || kind == cell.kind || (kind == 2 && cell.kind == 3) || (kind == 1 && cell.kind == 4);
        if (!is) return failure(3);
        if (what == 0) return cell.kind;
        return cell.kind == 0 || cell.kind == 4 ? 0 : cell.hundredths;
    }

    int tell(boolean isMelt, int band, int grains) {
        if (!among(band, 0, 9) || !among(grains, 0, 100000)) return OUTSIDE;
        Integer was = (isMelt ? melt : snow).put(band, grains);
        return was == null ? 0 : was;
    }

    int rule(int newFraction, int newCap) {
        if (!among(newFraction, 0, 100) || !among(newCap, 1, 1000000)) return OUTSIDE;
        int was = cap;
        fraction = newFraction;
        cap = newCap;
        return was;
    }

    long ice(int x, int y, int grains) {
        Cell cell = cellAt(x, y);
        if (cell == null) return UNKNOWN;
        if (!among(grains, 0, 1000000)) return OUTSIDE;
        if (cell.kind == 4 || year != 0) return STATE;
        cell.add(0, grains);
        sums.get(3).merge(0, (long) grains, Long::sum);
        return cell.thickness();
    }

    int years(int n) {
        if (!among(n, 1, 60)) return OUTSIDE;
        if (cells == null) return STATE;
        if (year + n > 60) return FULL;
        for (int i = 0; i < n; i++) oneYear();
        return year;
    }

    private List<Cell> all() {
        List<Cell> all = new ArrayList<>();
        for (Cell[] row : cells) all.addAll(List.of(row));
        return all;
    }

    private static List<TreeMap<Integer, Long>> copies(List<TreeMap<Integer, Long>> maps) {
        List<TreeMap<Integer, Long>> copies = new ArrayList<>();
        for (TreeMap<Integer, Long> map : maps) copies.add(new TreeMap<>(map));
        return copies;
    }

    private void tally(int what, Map<Integer, Long> grains) {
        for (Map.Entry<Integer, Long> entry : grains.entrySet()) {
            sums.get(what - 1).merge(entry.getKey(), entry.getValue(), Long::sum);
        }
    }

    private void oneYear() {
        Snapshot ahead = new Snapshot();
        ahead.year = year;
        ahead.sums = copies(sums);
        for (Cell cell : all()) ahead.layers.add(new TreeMap<>(cell.layers));
        past.add(ahead);
        if (past.size() > 5) past.remove(0);
        year++;
        for (Cell cell : all()) {
            if (cell.kind == 4) continue;
            int band = cell.level / 1000;
            long comes = snow.getOrDefault(band, 0);
            cell.add(year, comes);
            tally(4, Map.of(year, comes));
        }
        for (Cell cell : all()) {
            if (cell.kind == 4) continue;
            long goes = melt.getOrDefault(cell.level / 1000, 0);
            if (cell.kind == 2 || cell.kind == 3) goes -= goes * cell.hundredths / 100;
            tally(1, cell.take(goes));
        }
        move();
        for (Cell cell : all()) if (cell.kind == 3) tally(3, cell.take(cell.thickness()));
    }

    /** All that is given is taken out of all cells first, and only then lies elsewhere. */
    private void move() {
        Map<String, Long> gifts = new HashMap<>();
        for (int y = 0; y < cells.length; y++) {
            for (int x = 0; x < cells[0].length; x++) {
                for (int side = 0; side < 4; side++) {
                    if (cells[y][x].kind != 4) gifts.put(x + " " + y + " " + side, gives(x, y, side));
                }
            }
        }
        List<Cell> takers = new ArrayList<>();
        List<TreeMap<Integer, Long>> moving = new ArrayList<>();
        for (int y = 0; y < cells.length; y++) {
            for (int x = 0; x < cells[0].length; x++) {
                for (int side = 0; side < 4; side++) {
                    long gift = gifts.getOrDefault(x + " " + y + " " + side, 0L);
                    if (gift == 0) continue;
                    takers.add(neighbour(x, y, side));
                    moving.add(cells[y][x].take(gift));
                }
            }
        }
        for (int i = 0; i < takers.size(); i++) {
            if (takers.get(i).kind == 4) {
                tally(2, moving.get(i));
            } else {
                for (Map.Entry<Integer, Long> part : moving.get(i).entrySet()) takers.get(i).add(part.getKey(), part.getValue());
            }
        }
    }

    private Cell neighbour(int x, int y, int side) {
        int[][] steps = {{0, -1}, {1, 0}, {0, 1}, {-1, 0}};
        return cellAt(x + steps[side][0], y + steps[side][1]);
    }

    int back() {
        if (past.isEmpty()) return STATE;
        Snapshot ahead = past.remove(past.size() - 1);
        year = ahead.year;
        sums = ahead.sums;
        List<Cell> all = all();
        for (int i = 0; i < all.size(); i++) all.get(i).layers = ahead.layers.get(i);
        return year;
    }

    int steady(int n) {
        if (!among(n, 1, 60)) return OUTSIDE;
        if (cells == null) return STATE;
        if (year + n > 60) return FULL;
        List<List<Long>> seen = new ArrayList<>();
        seen.add(thicknesses());
        for (int i = 1; i <= n; i++) {
            oneYear();
            int earlier = seen.lastIndexOf(thicknesses());
            if (earlier >= 0) return i - earlier;
            seen.add(thicknesses());
        }
        return 0;
    }

    private List<Long> thicknesses() {
        List<Long> all = new ArrayList<>();
        for (Cell cell : all()) all.add(cell.thickness());
        return all;
    }

    long cell(int x, int y, int what) {
        Cell cell = cellAt(x, y);
        if (cell == null) return UNKNOWN;
        if (!among(what, 0, 6)) return OUTSIDE;
        if (cell.kind == 4) return STATE;
        boolean bare = cell.layers.isEmpty();
        long[] told = {cell.level, cell.thickness(), cell.surface(), cell.layers.size(),
            bare ? NONE : cell.layers.lastKey(), bare ? NONE : cell.layers.firstKey(), cell.level / 1000};
        return told[what];
    }

    long layer(int x, int y, int i, int what) {
        Cell cell = cellAt(x, y);
        if (cell == null) return UNKNOWN;
        if (!among(what, 0, 1)) return OUTSIDE;
        if (cell.kind == 4) return STATE;
        if (!among(i, 0, cell.layers.size() - 1)) return NONE;
        int of = new ArrayList<>(cell.layers.descendingKeySet()).get(i);
        return what == 0 ? of : cell.layers.get(of);
    }

    long sum(int what, int of) {
        if (!among(what, 0, 4) || (of != NONE && !among(of, 0, 60))) return OUTSIDE;
        if (cells == null) return STATE;
        List<TreeMap<Integer, Long>> counted = new ArrayList<>();
        if (what > 0) counted.add(sums.get(what - 1));
        else for (Cell cell : all()) counted.add(cell.layers);
        long total = 0;
        for (TreeMap<Integer, Long> map : counted) {
            for (Map.Entry<Integer, Long> entry : map.entrySet()) {
                if (of == NONE || of == entry.getKey()) total += entry.getValue();
            }
        }
        return total;
    }

    long about(int what) {
        if (!among(what, 0, 4)) return OUTSIDE;
        if (cells == null) return STATE;
        long icy = 0;
        long greatest = 0;
        long lowest = Long.MAX_VALUE;
        int oldest = Integer.MAX_VALUE;
        for (Cell cell : all()) {
            if (cell.thickness() == 0) continue;
            icy++;
            greatest = Math.max(greatest, cell.thickness());
            lowest = Math.min(lowest, cell.surface());
            oldest = Math.min(oldest, cell.layers.firstKey());
        }
        if (what <= 1) return what == 0 ? icy : greatest;
        if (icy == 0) return NONE;
        if (what <= 3) return what == 2 ? lowest : oldest;
        int first = thicknesses().indexOf(greatest);
        return 8 * (first / cells[0].length) + first % cells[0].length;
    }

    long gives(int x, int y, int side) {
        Cell cell = cellAt(x, y);
        if (cell == null) return UNKNOWN;
        if (!among(side, 0, 3)) return OUTSIDE;
        if (cell.kind == 4) return STATE;
        Cell other = neighbour(x, y, side);
        if (other == null) return 0;
        long thickness = cell.thickness();
        long lower = other.kind == 4 ? thickness : cell.surface() - other.surface();
        if (thickness == 0 || lower <= 0) return 0;
        BigInteger gift = BigInteger.valueOf(cell.kind == 1 ? cell.hundredths : fraction)
            .multiply(BigInteger.valueOf(lower)).multiply(BigInteger.valueOf(Math.min(cap, thickness)))
            .divide(BigInteger.valueOf(100));
        return gift.min(BigInteger.valueOf(lower / 8)).min(BigInteger.valueOf(thickness / 8)).longValueExact();
    }

    int turn(int how) {
        if (!among(how, 0, 1)) return OUTSIDE;
        if (cells == null) return STATE;
        int height = cells.length;
        int width = cells[0].length;
        Cell[][] turned = how == 0 ? new Cell[height][width] : new Cell[width][height];
        for (int y = 0; y < height; y++) {
            for (int x = 0; x < width; x++) {
                if (how == 0) turned[y][width - 1 - x] = cells[y][x];
                else turned[x][height - 1 - y] = cells[y][x];
            }
        }
        cells = turned;
        past.clear();
        return cells[0].length;
    }

    int count(int what) {
        if (!among(what, 0, 6)) return OUTSIDE;
        int there = 0;
        for (long[] row : rows) if (row != null) there++;
        int cliffs = 0;
        if (cells != null) for (Cell cell : all()) if (cell.kind == 4) cliffs++;
        int[] told = {cells == null ? 0 : cells[0].length, cells == null ? 0 : cells.length, year, past.size(), failures, cliffs, there};
        return told[what];
    }
}
