/** The edges that promises 10 and 11 name: RINGS, their least and greatest rows, and the way around. */
public final class RingEdgeTest {
    private static final int LEAST = Integer.MIN_VALUE;
    private static final int GREATEST = Integer.MAX_VALUE;
    private static final Check CHECK = new Check();

    public static void main(String[] args) {
        promise10ThreeToEightPlaces();
        promise10OneInTheUpperRowAtLeast();
        promise10OneMoreInTheLowerRowAtLeast();
        promise10OneFreePlaceAtLeast();
        promise10NoPlaceBeyondTheRing();
        promise10ThePlaceItselfFirst();
        promise10ThenDownwards();
        promise10BehindZeroComesTheLast();
        promise10NotYetUsed();
        promise10OthersAreSortTwo();
        promise10PlaceCountsThreeToTheI();
        promise10TurnedRows();
        promise11ThreeToEightPlaces();
        promise11LeastAndGreatestRing();
        promise11WithoutAOne();
        promise11WithoutATwo();
        promise11WithoutAFreePlace();
        promise11Above();
        promise11AllPairsOfRows();
        promise11TurnedRings();
        refusedChangesNothing();
        CHECK.end();
    }

    private static int full(int m) {
        return (1 << m) - 1;
    }

    private static int three(int times) {
        int product = 1;
        for (int time = 0; time < times; time++) {
            product *= 3;
        }
        return product;
    }

    /** The ring with these sorts at places 0, 1, .. */
    private static int ring(int... sorts) {
        int number = 0;
        for (int place = 0; place < sorts.length; place++) {
            number += three(place) * sorts[place];
        }
        return number;
    }

    // ---- Promise 10: "THE QUEUE's RING of m PLACES. BAD (rows as told)."

    private static void promise10ThreeToEightPlaces() {
        OnePlaceEach rings = new OnePlaceEach();
        for (int m = 3; m <= 8; m++) {
            CHECK.due("queue(" + m + ", 1, 3)", 7, rings.queue(m, 1, 3));
        }
        for (int m : new int[] {2, 9, 1, 0, -1, -3, 32, 35, LEAST, GREATEST}) {
            CHECK.bad("queue(" + m + ", 1, 3)", rings.queue(m, 1, 3));
        }
    }

    private static void promise10OneInTheUpperRowAtLeast() {
        OnePlaceEach rings = new OnePlaceEach();
        for (int m = 3; m <= 8; m++) {
            CHECK.bad("no one above, m " + m, rings.queue(m, 0, 3));
            CHECK.bad("no one at all, m " + m, rings.queue(m, 0, 0));
            for (int place = 0; place < m; place++) {
                int number = rings.queue(m, 1 << place, 3);
                CHECK.due("one above, m " + m, place == 0 ? 7 : 5, number);
            }
        }
    }

    private static void promise10OneMoreInTheLowerRowAtLeast() {
        OnePlaceEach rings = new OnePlaceEach();
        for (int m = 3; m <= 8; m++) {
            for (int a = 1; a <= m - 2; a++) {
                int upper = full(a);
                CHECK.bad("b 0", rings.queue(m, upper, upper));
                CHECK.bad("b 0, elsewhere", rings.queue(m, upper, upper << 1));
                CHECK.bad("b below 0", rings.queue(m, upper, full(a - 1)));
                CHECK.due("b 1", (three(a) - 1) / 2 + 2 * three(a), rings.queue(m, upper, full(a + 1)));
            }
        }
    }

    private static void promise10OneFreePlaceAtLeast() {
        OnePlaceEach rings = new OnePlaceEach();
        for (int m = 3; m <= 8; m++) {
            for (int a = 1; a <= m - 2; a++) {
                int ones = (three(a) - 1) / 2;
                int twos = three(m - 1) - three(a);
                CHECK.due("a and b are m - 1", ones + twos, rings.queue(m, full(a), full(m - 1)));
                CHECK.bad("a and b are m", rings.queue(m, full(a), full(m)));
            }
            CHECK.bad("a is m - 1, b 0", rings.queue(m, full(m - 1), full(m - 1)));
            CHECK.bad("a is m - 1, b 1", rings.queue(m, full(m - 1), full(m)));
            CHECK.bad("a is m, b 0", rings.queue(m, full(m), full(m)));
        }
    }

    private static void promise10NoPlaceBeyondTheRing() {
        OnePlaceEach rings = new OnePlaceEach();
        for (int m = 3; m <= 8; m++) {
            int last = 1 << m - 1;
            CHECK.due("last place above", 5, rings.queue(m, last, 3));
            CHECK.due("last place below", ring(1) + 2 * three(m - 1), rings.queue(m, 1, 1 | last));
            CHECK.bad("beyond the last place above", rings.queue(m, 1 << m, 3));
            CHECK.bad("beyond the last place below", rings.queue(m, 1, 1 | 1 << m));
            for (int row : new int[] {-1, LEAST, LEAST + 1, GREATEST}) {
                CHECK.bad("queue(" + m + ", " + row + ", 3)", rings.queue(m, row, 3));
                CHECK.bad("queue(" + m + ", 1, " + row + ")", rings.queue(m, 1, row));
            }
        }
    }

    private static void promise10ThePlaceItselfFirst() {
        OnePlaceEach rings = new OnePlaceEach();
        CHECK.due("place 1 itself, not 0 or 2", ring(2, 1, 2, 0), rings.queue(4, 2, 7));
    }

    private static void promise10ThenDownwards() {
        OnePlaceEach rings = new OnePlaceEach();
        CHECK.due("from 2 to 1, not to 3", ring(0, 1, 0, 2), rings.queue(4, 4, 10));
        CHECK.due("from 7 to 1", ring(0, 1, 0, 0, 0, 0, 0, 0) + 2, rings.queue(8, 128, 3));
    }

    private static void promise10BehindZeroComesTheLast() {
        OnePlaceEach rings = new OnePlaceEach();
        for (int m = 3; m <= 8; m++) {
            int last = 1 << m - 1;
            CHECK.due("from 0 to m - 1, m " + m, three(m - 1) + 2 * three(1), rings.queue(m, 1, last | 2));
            // One is left over always, so that place 2 is the farthest that place 0 can come to.
            CHECK.due("from 0 around to 2, not to 1, m " + m, ring(0, 2, 1), rings.queue(m, 1, 6));
        }
    }

    private static void promise10NotYetUsed() {
        OnePlaceEach rings = new OnePlaceEach();
        CHECK.due("0 and 1 to 0 and 7", ring(1, 0, 0, 0, 0, 0, 2, 1), rings.queue(8, 3, 193));
        CHECK.due("two around", ring(0, 0, 2, 1, 1), rings.queue(5, 3, 28));
    }

    private static void promise10OthersAreSortTwo() {
        OnePlaceEach rings = new OnePlaceEach();
        CHECK.due("six of sort 2", ring(1, 2, 2, 2, 2, 2, 2, 0), rings.queue(8, 1, 127));
        CHECK.due("one of sort 2", ring(2, 1, 1, 1, 1, 1, 1, 0), rings.queue(8, 126, 127));
    }

    private static void promise10PlaceCountsThreeToTheI() {
        OnePlaceEach rings = new OnePlaceEach();
        for (int place = 1; place < 8; place++) {
            CHECK.due("2 at " + place, 1 + 2 * three(place), rings.queue(8, 1, 1 | 1 << place));
            CHECK.due("1 at " + place, 2 + three(place), rings.queue(8, 1 << place, 1 | 1 << place));
        }
    }

    /** No place of a ring is its end: rows that are turned come to the ring that is turned. */
    private static void promise10TurnedRows() {
        for (int m = 3; m <= 8; m++) {
            for (int upper = 1; upper < 1 << m; upper++) {
                OnePlaceEach rings = new OnePlaceEach();
                for (int lower = 1; lower < 1 << m; lower += 3) {
                    int number = rings.queue(m, upper, lower);
                    int due = number < 0 ? number : turnedRing(m, number);
                    CHECK.due("turned rows, m " + m, due, rings.queue(m, turnedRow(m, upper), turnedRow(m, lower)));
                }
            }
        }
    }

    private static int turnedRow(int m, int row) {
        return row * 2 % (1 << m) + row * 2 / (1 << m);
    }

    private static int turnedRing(int m, int number) {
        return number * 3 % three(m) + number * 3 / three(m);
    }

    // ---- Promise 11: "WAYS of a RING of m PLACES. BAD: also without a 1, a 2 or a free PLACE, or above."

    private static void promise11ThreeToEightPlaces() {
        OnePlaceEach rings = new OnePlaceEach();
        for (int m = 3; m <= 8; m++) {
            CHECK.due("ways(" + m + ", 7)", 1, rings.ways(m, 7));
        }
        for (int m : new int[] {2, 9, 1, 0, -1, -3, 32, 35, LEAST, GREATEST}) {
            CHECK.bad("ways(" + m + ", 7)", rings.ways(m, 7));
        }
    }

    /** The least right ring has 2, 1, and 0 behind; the greatest one 0, 1, and 2 behind. */
    private static void promise11LeastAndGreatestRing() {
        OnePlaceEach rings = new OnePlaceEach();
        for (int m = 3; m <= 8; m++) {
            CHECK.due("ways(" + m + ", 5)", m - 1, rings.ways(m, 5));
            for (int ring = -1; ring <= 4; ring++) {
                CHECK.bad("ways(" + m + ", " + ring + ")", rings.ways(m, ring));
            }
            int greatest = three(m) - 6;
            CHECK.due("ways(" + m + ", " + greatest + ")", 1, rings.ways(m, greatest));
            for (int ring = greatest + 1; ring <= greatest + 6; ring++) {
                CHECK.bad("ways(" + m + ", " + ring + ")", rings.ways(m, ring));
            }
        }
    }

    private static void promise11WithoutAOne() {
        OnePlaceEach rings = new OnePlaceEach();
        CHECK.bad("2, free", rings.ways(3, ring(2, 0, 0)));
        CHECK.bad("2, 2, free", rings.ways(3, ring(2, 0, 2)));
        CHECK.bad("seven 2 s", rings.ways(8, ring(2, 2, 2, 0, 2, 2, 2, 2)));
        CHECK.bad("2 s alone", rings.ways(8, three(8) - 1));
    }

    private static void promise11WithoutATwo() {
        OnePlaceEach rings = new OnePlaceEach();
        CHECK.bad("1, free", rings.ways(3, ring(0, 0, 1)));
        CHECK.bad("1, 1, free", rings.ways(3, ring(1, 1, 0)));
        CHECK.bad("seven 1 s", rings.ways(8, ring(1, 1, 1, 0, 1, 1, 1, 1)));
        CHECK.bad("1 s alone", rings.ways(8, (three(8) - 1) / 2));
        CHECK.bad("free alone", rings.ways(8, 0));
    }

    private static void promise11WithoutAFreePlace() {
        OnePlaceEach rings = new OnePlaceEach();
        CHECK.bad("1, 1, 2", rings.ways(3, ring(1, 1, 2)));
        CHECK.bad("2, 1, 2", rings.ways(3, ring(2, 1, 2)));
        CHECK.bad("seven 1 s, a 2", rings.ways(8, ring(1, 1, 1, 1, 1, 1, 1, 2)));
        CHECK.due("six 1 s, a 2, one free", 1, rings.ways(8, ring(0, 2, 1, 1, 1, 1, 1, 1)) > 0 ? 1 : 0);
    }

    private static void promise11Above() {
        OnePlaceEach rings = new OnePlaceEach();
        for (int m = 3; m <= 8; m++) {
            // Beside the places of the ring all sorts are there: only the number is too great.
            for (int ring : new int[] {three(m), three(m) + 5, three(m) + 7, 2 * three(m) + 5, GREATEST}) {
                CHECK.bad("ways(" + m + ", " + ring + ")", rings.ways(m, ring));
            }
            for (int ring : new int[] {-1, -5, -7, LEAST}) {
                CHECK.bad("ways(" + m + ", " + ring + ")", rings.ways(m, ring));
            }
        }
        CHECK.due("32 of four places is right", 2, rings.ways(4, 32));
        CHECK.bad("32 of three places is above", rings.ways(3, 32));
    }

    /** Each pair of rows comes to one ring: so all WAYS together are all pairs. */
    private static void promise11AllPairsOfRows() {
        for (int m = 3; m <= 8; m++) {
            long ways = 0;
            OnePlaceEach rings = null;
            for (int ring = 0; ring < three(m); ring++) {
                if (ring % 500 == 0) {
                    rings = new OnePlaceEach();
                }
                int here = rings.ways(m, ring);
                ways += here > 0 ? here : 0;
            }
            CHECK.due("all ways, m " + m, pairsOfRows(m), ways);
        }
    }

    private static long pairsOfRows(int m) {
        long pairs = 0;
        for (int upper = 0; upper < 1 << m; upper++) {
            for (int lower = 0; lower < 1 << m; lower++) {
                int a = Integer.bitCount(upper);
                int b = Integer.bitCount(lower) - a;
                pairs += a >= 1 && b >= 1 && a + b <= m - 1 ? 1 : 0;
            }
        }
        return pairs;
    }

    private static void promise11TurnedRings() {
        for (int m = 3; m <= 8; m++) {
            OnePlaceEach rings = null;
            for (int ring = 0; ring < three(m); ring++) {
                if (ring % 250 == 0) {
                    rings = new OnePlaceEach();
                }
                CHECK.due("turned ring " + ring, rings.ways(m, ring), rings.ways(m, turnedRing(m, ring)));
            }
        }
    }

    // ---- "BAD .. nothing changes then."

    private static void refusedChangesNothing() {
        Refusal refusal = new Refusal(CHECK, RingEdgeTest::past);
        refusal.bad("queue(2, 1, 3)", object -> object.queue(2, 1, 3));
        refusal.bad("queue(9, 1, 3)", object -> object.queue(9, 1, 3));
        refusal.bad("queue(3, 0, 3)", object -> object.queue(3, 0, 3));
        refusal.bad("queue(3, 1, 7)", object -> object.queue(3, 1, 7));
        refusal.bad("queue(3, 3, 3)", object -> object.queue(3, 3, 3));
        refusal.bad("queue(3, 8, 3)", object -> object.queue(3, 8, 3));
        refusal.bad("queue(3, -1, 3)", object -> object.queue(3, -1, 3));
        refusal.bad("queue(3, 1, 9)", object -> object.queue(3, 1, 9));
        refusal.bad("queue(3, 1, -1)", object -> object.queue(3, 1, -1));
        refusal.bad("ways(2, 5)", object -> object.ways(2, 5));
        refusal.bad("ways(9, 5)", object -> object.ways(9, 5));
        refusal.bad("ways(3, -1)", object -> object.ways(3, -1));
        refusal.bad("ways(3, 2), no 1", object -> object.ways(3, 2));
        refusal.bad("ways(3, 4), no 2", object -> object.ways(3, 4));
        refusal.bad("ways(3, 16), none free", object -> object.ways(3, 16));
        refusal.bad("ways(3, 27)", object -> object.ways(3, 27));
    }

    private static void past(OnePlaceEach object) {
        object.row(5, 4, 3);
        object.step(9, false);
        object.set(0, 1);
        object.set(8, 2);
        object.queue(8, 129, 67);
    }
}
