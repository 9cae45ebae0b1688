/** Promises 10 and 11: RINGS, against queues served in the other order and every pair of rows tried. */
public final class RingTest {
    private static final Check CHECK = new Check();

    public static void main(String[] args) {
        promise10Queue();
        promise10Wrong();
        promise11Ways();
        promise11Wrong();
        for (int m = 3; m <= 8; m++) {
            everyPairOfRows(m);
        }
        leavesTheRestAlone();
        CHECK.end();
    }

    private static void promise10Queue() {
        OnePlaceEach rings = new OnePlaceEach();
        CHECK.due("straight below", 7, rings.queue(3, 1, 3));
        CHECK.due("one less", 5, rings.queue(3, 4, 3));
        CHECK.due("behind 0 comes the last", 1 * 27 + 2 * 9, rings.queue(4, 1, 12));
        CHECK.due("used places are passed", 1 * 1 + 1 * 2187 + 2 * 729, rings.queue(8, 3, 193));
    }

    private static void promise10Wrong() {
        OnePlaceEach rings = new OnePlaceEach();
        for (int m : new int[] {2, 9, 0, -1, 31, 32, 35, Integer.MIN_VALUE, Integer.MAX_VALUE}) {
            CHECK.bad("queue(" + m + ", 1, 3)", rings.queue(m, 1, 3));
        }
        for (int row : new int[] {-1, -8, 8, 16, Integer.MIN_VALUE, Integer.MAX_VALUE}) {
            CHECK.bad("queue(3, " + row + ", 3)", rings.queue(3, row, 3));
            CHECK.bad("queue(3, 1, " + row + ")", rings.queue(3, 1, row));
        }
        CHECK.bad("lower row beyond the ring", rings.queue(3, 1, 9));
        CHECK.bad("upper row beyond the ring", rings.queue(4, 16, 3));
        CHECK.bad("no 1", rings.queue(3, 0, 3));
        CHECK.bad("no 2", rings.queue(3, 3, 3));
        CHECK.bad("none free", rings.queue(3, 1, 7));
        CHECK.bad("fewer below", rings.queue(8, 7, 3));
        CHECK.bad("nothing below", rings.queue(3, 1, 0));
    }

    private static void promise11Ways() {
        OnePlaceEach rings = new OnePlaceEach();
        CHECK.due("ways(3, 5)", 2, rings.ways(3, 5));
        CHECK.due("ways(3, 7)", 1, rings.ways(3, 7));
        CHECK.due("ways(8, 1234)", 5, rings.ways(8, 1234));
    }

    private static void promise11Wrong() {
        OnePlaceEach rings = new OnePlaceEach();
        for (int m : new int[] {2, 9, 0, -1, 31, 32, 35, Integer.MIN_VALUE, Integer.MAX_VALUE}) {
            CHECK.bad("ways(" + m + ", 5)", rings.ways(m, 5));
        }
        int above = 27;
        for (int m = 3; m <= 8; m++) {
            for (int ring : new int[] {-1, -5, above, above + 5, above + 7, Integer.MIN_VALUE, Integer.MAX_VALUE}) {
                CHECK.bad("ways(" + m + ", " + ring + ")", rings.ways(m, ring));
            }
            above *= 3;
        }
        CHECK.bad("without a 1", rings.ways(3, 2));
        CHECK.bad("without a 2", rings.ways(3, 4));
        CHECK.bad("without a free place", rings.ways(3, 1 + 2 * 3 + 1 * 9));
        CHECK.bad("empty", rings.ways(3, 0));
    }

    private static void everyPairOfRows(int m) {
        int rings = 1;
        for (int place = 0; place < m; place++) {
            rings *= 3;
        }
        int[] ways = new int[rings];
        // An object is used for at most 512 calls, so a new one is asked now and then.
        OnePlaceEach asked = null;
        for (int upper = 0; upper < 1 << m; upper++) {
            asked = new OnePlaceEach();
            for (int lower = 0; lower < 1 << m; lower++) {
                int ring = ringOf(m, upper, lower);
                CHECK.due("queue(" + m + ", " + upper + ", " + lower + ")", ring, asked.queue(m, upper, lower));
                if (ring >= 0) {
                    ways[ring]++;
                }
            }
        }
        for (int ring = 0; ring < rings; ring++) {
            if (ring % 256 == 0) {
                asked = new OnePlaceEach();
            }
            int due = hasAllSorts(m, ring) ? ways[ring] : -1;
            CHECK.due("ways(" + m + ", " + ring + ")", due, asked.ways(m, ring));
        }
    }

    /** The document says that the order does not matter: here the greatest place is served first. */
    private static int ringOf(int m, int upper, int lower) {
        int first = Integer.bitCount(upper);
        int second = Integer.bitCount(lower) - first;
        if (first < 1 || second < 1 || first + second > m - 1) {
            return -1;
        }
        int[] sorts = new int[m];
        for (int place = 0; place < m; place++) {
            sorts[place] = 2 * (lower >> place & 1);
        }
        for (int place = m - 1; place >= 0; place--) {
            if ((upper >> place & 1) == 1) {
                int spot = place;
                while (sorts[spot] != 2) {
                    spot = Math.floorMod(spot - 1, m);
                }
                sorts[spot] = 1;
            }
        }
        int ring = 0;
        int unit = 1;
        for (int sort : sorts) {
            ring += unit * sort;
            unit *= 3;
        }
        return ring;
    }

    private static boolean hasAllSorts(int m, int ring) {
        boolean[] seen = new boolean[3];
        int rest = ring;
        for (int place = 0; place < m; place++) {
            seen[rest % 3] = true;
            rest /= 3;
        }
        return seen[0] && seen[1] && seen[2];
    }

    private static void leavesTheRestAlone() {
        OnePlaceEach object = new OnePlaceEach();
        object.row(3, 2, 3);
        object.step(4, true);
        object.set(2, 2);
        object.queue(8, 129, 67);
        object.ways(8, 1234);
        CHECK.due("sum after rings", 113, object.sum(3));
        CHECK.due("place after rings", 2, object.at(2));
    }
}
