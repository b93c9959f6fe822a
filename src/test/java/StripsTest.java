/** Promises 1 to 6. */
public final class StripsTest {
    private static final Due due = new Due("StripsTest");
    private static final int UNKNOWN = -1, OUTSIDE = -2, NULL = -11, INDEX = -12, CAST = -13, SIZE = -14;

    public static void main(String[] args) {
        newObject();
        strip();
        stripRefused();
        tear();
        put();
        putRefused();
        at();
        atRefused();
        copy();
        copyRefused();
        due.end();
    }

    private static void newObject() {
        GlacierYears x = new GlacierYears();
        for (int what = 0; what <= 6; what++) due.is("1: count(" + what + ") when new", x.count(what), 0);
        for (int s = 0; s < 8; s++) due.is("1: tear when new", x.tear(s), 1);
        due.is("1: no ground, no cell", x.cell(0, 0, 0), UNKNOWN);
        due.is("1: no ground, no sum", x.sum(0, -9), -3);
        due.is("1: nothing told of snow", x.tell(false, 0, 0), 0);
        due.is("1: nothing told of melt", x.tell(true, 9, 0), 0);
        due.is("1: the cap at first", x.rule(0, 1), 1000);
    }

    private static void strip() {
        GlacierYears x = new GlacierYears();
        for (int lane = 0; lane <= 2; lane++) {
            for (int n = 0; n <= 8; n++) due.is("2: strip", x.strip(7, lane, n), n);
        }
        due.is("2: one strip stands", x.count(6), 1);
        x.strip(0, 1, 8);
        for (int i = 0; i < 8; i++) x.put(0, i, 77);
        due.is("2: made anew", x.strip(0, 1, 8), 8);
        for (int i = 0; i < 8; i++) due.is("2: all are 0 anew", x.at(0, 1, i), 0);
        x.strip(0, 2, 1);
        due.is("2: of another lane", x.at(0, 2, 0), 0);
        due.is("2: and of another length", x.at(0, 2, 1), INDEX);
    }

    private static void stripRefused() {
        GlacierYears x = new GlacierYears();
        x.strip(0, 1, 2);
        x.put(0, 1, 5);
        due.is("2: strip -1", x.strip(-1, 0, 1), UNKNOWN);
        due.is("2: strip 8", x.strip(8, 0, 1), UNKNOWN);
        due.is("2: unknown goes first", x.strip(8, 3, -1), UNKNOWN);
        due.is("2: lane -1", x.strip(0, -1, 1), OUTSIDE);
        due.is("2: lane 3", x.strip(0, 3, 1), OUTSIDE);
        due.is("2: n 9", x.strip(0, 0, 9), OUTSIDE);
        due.is("2: n greatest", x.strip(0, 0, Integer.MAX_VALUE), OUTSIDE);
        due.is("2: outside goes ahead of size", x.strip(0, 3, -1), OUTSIDE);
        due.is("2: no failure yet", x.count(4), 0);
        due.is("2: n -1", x.strip(0, 0, -1), SIZE);
        due.is("2: n lowest", x.strip(1, 0, Integer.MIN_VALUE), SIZE);
        due.is("2: two failures", x.count(4), 2);
        due.is("2: still as it was", x.at(0, 1, 1), 5);
        due.is("2: still missing", x.count(6), 1);
    }

    private static void tear() {
        GlacierYears x = new GlacierYears();
        x.strip(3, 2, 0);
        due.is("3: was there", x.tear(3), 0);
        due.is("3: was missing", x.tear(3), 1);
        due.is("3: missing", x.at(3, 2, 0), NULL);
        due.is("3: none there", x.count(6), 0);
        due.is("3: strip -1", x.tear(-1), UNKNOWN);
        due.is("3: strip 8", x.tear(8), UNKNOWN);
        x.strip(3, 2, 2);
        due.is("3: whole again", x.at(3, 2, 1), 0);
    }

    private static void put() {
        GlacierYears x = new GlacierYears();
        for (int lane = 0; lane <= 2; lane++) x.strip(lane, lane, 8);
        long[] numbers = {0, -1, 32767, 32768, 65536, 0x123456789ABCDEFL, Long.MIN_VALUE, Long.MAX_VALUE, 2147483648L};
        for (long v : numbers) {
            for (int lane = 0; lane <= 2; lane++) due.is("4: put", x.put(lane, 7, v), 1);
            due.is("4: as a short", x.at(0, 0, 7), (short) v);
            due.is("4: as an int", x.at(1, 1, 7), (int) v);
            due.is("4: as a long", x.at(2, 2, 7), v);
        }
        due.is("4: its neighbour stays", x.at(2, 2, 6), 0);
    }

    private static void putRefused() {
        GlacierYears x = new GlacierYears();
        x.strip(0, 1, 3);
        x.strip(1, 1, 0);
        due.is("4: strip -1", x.put(-1, 0, 1), UNKNOWN);
        due.is("4: strip 8", x.put(8, -1, 1), UNKNOWN);
        due.is("4: no failure yet", x.count(4), 0);
        due.is("4: missing", x.put(2, 0, 1), NULL);
        due.is("4: missing goes ahead of the place", x.put(2, -1, 1), NULL);
        due.is("4: place -1", x.put(0, -1, 1), INDEX);
        due.is("4: place 3 of 3", x.put(0, 3, 1), INDEX);
        due.is("4: place 0 of 0", x.put(1, 0, 1), INDEX);
        due.is("4: greatest place", x.put(0, Integer.MAX_VALUE, 1), INDEX);
        due.is("4: lowest place", x.put(0, Integer.MIN_VALUE, 1), INDEX);
        due.is("4: seven failures", x.count(4), 7);
        for (int i = 0; i < 3; i++) due.is("4: nothing came", x.at(0, 1, i), 0);
    }

    private static void at() {
        GlacierYears x = new GlacierYears();
        x.strip(5, 2, 8);
        for (int i = 0; i < 8; i++) x.put(5, i, 10000000000L * i);
        for (int i = 0; i < 8; i++) due.is("5: at", x.at(5, 2, i), 10000000000L * i);
    }

    private static void atRefused() {
        GlacierYears x = new GlacierYears();
        x.strip(0, 1, 3);
        due.is("5: strip -1", x.at(-1, 3, 0), UNKNOWN);
        due.is("5: strip 8", x.at(8, 0, 0), UNKNOWN);
        due.is("5: lane 3", x.at(0, 3, 0), OUTSIDE);
        due.is("5: lane -1 goes ahead of null", x.at(1, -1, 0), OUTSIDE);
        due.is("5: no failure yet", x.count(4), 0);
        due.is("5: missing goes ahead of cast", x.at(1, 0, 9), NULL);
        due.is("5: a lesser lane", x.at(0, 0, 0), CAST);
        due.is("5: cast goes ahead of index", x.at(0, 2, 9), CAST);
        due.is("5: place -1", x.at(0, 1, -1), INDEX);
        due.is("5: place 3 of 3", x.at(0, 1, 3), INDEX);
        due.is("5: five failures", x.count(4), 5);
    }

    private static GlacierYears twoRows() {
        GlacierYears x = new GlacierYears();
        x.strip(0, 1, 5);
        x.strip(1, 1, 3);
        x.strip(2, 0, 3);
        for (int i = 0; i < 5; i++) x.put(0, i, 10 + i);
        for (int i = 0; i < 3; i++) x.put(1, i, 20 + i);
        return x;
    }

    private static void row(GlacierYears x, String what, int strip, long... want) {
        for (int i = 0; i < want.length; i++) due.is(what + " [" + i + "]", x.at(strip, 1, i), want[i]);
    }

    private static void copy() {
        GlacierYears x = twoRows();
        due.is("6: copy", x.copy(0, 3, 1, 1, 2), 2);
        row(x, "6: came", 1, 20, 13, 14);
        row(x, "6: stays", 0, 10, 11, 12, 13, 14);
        due.is("6: none", x.copy(0, 0, 1, 0, 0), 0);
        due.is("6: none at the ends", x.copy(0, 5, 1, 3, 0), 0);
        due.is("6: onto itself, up", x.copy(0, 0, 0, 1, 4), 4);
        row(x, "6: as they were ahead", 0, 10, 10, 11, 12, 13);
        due.is("6: onto itself, down", x.copy(0, 2, 0, 0, 3), 3);
        row(x, "6: as they were ahead", 0, 11, 12, 13, 12, 13);
        due.is("6: a whole row", x.copy(1, 0, 0, 2, 3), 3);
        row(x, "6: a whole row came", 0, 11, 12, 20, 13, 14);
    }

    private static void copyRefused() {
        GlacierYears x = twoRows();
        due.is("6: from -1", x.copy(-1, 0, 1, 0, 1), UNKNOWN);
        due.is("6: from 8", x.copy(8, 0, 1, 0, 1), UNKNOWN);
        due.is("6: to -1", x.copy(0, 0, -1, 0, -1), UNKNOWN);
        due.is("6: to 8", x.copy(0, 0, 8, 0, 1), UNKNOWN);
        due.is("6: no failure yet", x.count(4), 0);
        due.is("6: size goes ahead of null", x.copy(0, 0, 3, 0, -1), SIZE);
        due.is("6: from is missing", x.copy(3, 0, 2, 0, 1), NULL);
        due.is("6: to is missing", x.copy(0, 9, 3, 0, 1), NULL);
        due.is("6: cast goes ahead of index", x.copy(0, -1, 2, 0, 1), CAST);
        due.is("6: i -1", x.copy(0, -1, 1, 0, 1), INDEX);
        due.is("6: j -1", x.copy(0, 0, 1, -1, 1), INDEX);
        due.is("6: beyond from", x.copy(0, 4, 1, 0, 2), INDEX);
        due.is("6: beyond to", x.copy(0, 0, 1, 2, 2), INDEX);
        due.is("6: beyond with none, from", x.copy(0, 6, 1, 0, 0), INDEX);
        due.is("6: beyond with none, to", x.copy(0, 0, 1, 4, 0), INDEX);
        due.is("6: n greatest", x.copy(0, 1, 1, 1, Integer.MAX_VALUE), INDEX);
        due.is("6: i, j greatest", x.copy(0, Integer.MAX_VALUE, 1, Integer.MAX_VALUE, 1), INDEX);
        due.is("6: twelve failures", x.count(4), 12);
        row(x, "6: none came", 0, 10, 11, 12, 13, 14);
        row(x, "6: none came", 1, 20, 21, 22);
    }
}
