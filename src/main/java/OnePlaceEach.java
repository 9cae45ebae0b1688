/**
 * Movers in a row, one place each, who step to the right only to free places.
 *
 * <p>Three things stand side by side here: THE ROW and its chain ({@link Chain}), rings made by two
 * rows of queues ({@link Rings}), and the row that is STEPPED ({@link Stepped}). The public methods
 * look at their arguments and answer BAD or NO; the classes inside are only asked what they can answer.
 */
public final class OnePlaceEach {
    public static final int BAD = -1, NO = -2, NONE = -4;

    private static final int LONGEST_ROW = 8;
    private static final int GREATEST_RATE_DIVISOR = 9;
    private static final int SHORTEST_RING = 3;
    private static final int LONGEST_RING = 8;
    private static final int FEWEST_STEPPED = 2;
    private static final int MOST_STEPPED = 30;
    private static final int MOST_SINGLE_STEPS = 10000;
    private static final int MOST_COMMON_STEPS = 1000;
    private static final int LOWEST_31_BITS = 0x7fffffff;
    /** Euclid's way needs fewer than 100 turns for any two longs. */
    private static final int MOST_DIVISIONS = 100;

    private final Chain chain;
    private final Stepped stepped;

    public OnePlaceEach() {
        chain = new Chain();
        stepped = new Stepped();
    }

    public int row(int n, int x, int y) {
        if (!isWithin(n, 1, LONGEST_ROW)) {
            return BAD;
        }
        if (!isWithin(x, 1, GREATEST_RATE_DIVISOR) || !isWithin(y, 1, GREATEST_RATE_DIVISOR)) {
            return BAD;
        }
        chain.become(n, x, y);
        return chain.countStates();
    }

    public long weight(int state) {
        return chain.hasState(state) ? chain.weightOf(state) : BAD;
    }

    public long sum(int k) {
        return isWithin(k, 0, LONGEST_ROW) ? chain.sumOf(k) : BAD;
    }

    public long chance(int state, int what) {
        if (!chain.hasState(state) || !isWithin(what, 0, 1)) {
            return BAD;
        }
        return partOfFraction(chain.weightOf(state), chain.sumOf(chain.countPlaces()), what);
    }

    public long current(int what) {
        if (!isWithin(what, 0, 1)) {
            return BAD;
        }
        int places = chain.countPlaces();
        return partOfFraction(chain.sumOf(places - 1), chain.sumOf(places), what);
    }

    public long taken(int set, int what) {
        if (!chain.hasState(set) || !isWithin(what, 0, 1)) {
            return BAD;
        }
        return partOfFraction(chain.sumWithTaken(set), chain.sumOf(chain.countPlaces()), what);
    }

    public long flow(int state, int what) {
        if (!chain.hasState(state) || !isWithin(what, 0, 1)) {
            return BAD;
        }
        return what == 0 ? chain.flowInto(state) : chain.flowOutOf(state);
    }

    public int extreme(int what) {
        if (!isWithin(what, 0, 1)) {
            return BAD;
        }
        return what == 0 ? chain.heaviestState() : chain.lightestState();
    }

    // ---- rings

    public int queue(int m, int upper, int lower) {
        if (!isWithin(m, SHORTEST_RING, LONGEST_RING) || !Rings.areRows(m, upper, lower)) {
            return BAD;
        }
        return Rings.numberOf(m, Rings.servedPlaces(m, upper, lower), lower);
    }

    public int ways(int m, int ring) {
        if (!isWithin(m, SHORTEST_RING, LONGEST_RING) || !isWithin(ring, 0, Rings.greatestNumber(m))) {
            return BAD;
        }
        int first = Rings.placesOfSort(m, ring, 1);
        int second = Rings.placesOfSort(m, ring, 2);
        int free = Rings.placesOfSort(m, ring, 0);
        if (first == 0 || second == 0 || free == 0) {
            return BAD;
        }
        return Rings.countUpperRows(m, first, first | second);
    }

    // ---- stepped

    public int step(int places, boolean open) {
        if (!isWithin(places, FEWEST_STEPPED, MOST_STEPPED)) {
            return BAD;
        }
        stepped.begin(places, open);
        return 0;
    }

    public int set(int place, int sort) {
        if (!stepped.mayHavePlace(place) || !isWithin(sort, 0, 2)) {
            return BAD;
        }
        if (!stepped.isThere()) {
            return NO;
        }
        int before = stepped.sortAt(place);
        stepped.put(place, sort);
        return before;
    }

    public int seed(int v) {
        if (v < 0) {
            return BAD;
        }
        if (!stepped.isThere()) {
            return NO;
        }
        stepped.sow(v);
        return 0;
    }

    public int go(int t) {
        if (!isWithin(t, 1, MOST_SINGLE_STEPS)) {
            return BAD;
        }
        return stepped.isThere() ? stepped.stepSingly(t) : NO;
    }

    public int together(int t) {
        if (!isWithin(t, 1, MOST_COMMON_STEPS)) {
            return BAD;
        }
        if (!stepped.isThere() || stepped.countOfSort(2) > 0) {
            return NO;
        }
        return stepped.stepAllAtOnce(t);
    }

    public int at(int place) {
        if (!stepped.mayHavePlace(place)) {
            return BAD;
        }
        return stepped.isThere() ? stepped.sortAt(place) : NO;
    }

    public int told(int what) {
        if (!isWithin(what, 0, 7)) {
            return BAD;
        }
        return stepped.isThere() ? stepped.tell(what) : NO;
    }

    private static boolean isWithin(int number, int least, int greatest) {
        return number >= least && number <= greatest;
    }

    private static boolean isTaken(int places, int place) {
        return (places >> place & 1) == 1;
    }

    /** What stands above (part 0) or below (part 1) in the fraction's lowest terms. */
    private static long partOfFraction(long above, long below, int part) {
        long divisor = greatestCommonDivisor(above, below);
        long whole = part == 0 ? above : below;
        return divisor > 0 ? whole / divisor : whole;
    }

    private static long greatestCommonDivisor(long first, long second) {
        long greater = first;
        long lesser = second;
        for (int turn = 0; turn < MOST_DIVISIONS && lesser != 0; turn++) {
            long rest = greater % lesser;
            greater = lesser;
            lesser = rest;
        }
        return greater;
    }

    /** THE ROW: the weights of all words of up to eight letters, and what follows from them. */
    private static final class Chain {
        /** A word of k letters stands at 2 to the k, and its state: so no two lengths meet. */
        private final long[] weights = new long[2 << LONGEST_ROW];
        private final long[] sums = new long[LONGEST_ROW + 1];
        private int places;
        private int x;
        private int y;

        Chain() {
            become(1, 1, 1);
        }

        void become(int newPlaces, int newX, int newY) {
            places = newPlaces;
            // The table has every length, so only another x or y makes it stale.
            if (newX != x || newY != y) {
                x = newX;
                y = newY;
                weighAllWords();
            }
        }

        int countPlaces() {
            return places;
        }

        int countStates() {
            return 1 << places;
        }

        boolean hasState(int state) {
            return state >= 0 && state < countStates();
        }

        long weightOf(int state) {
            return weightOfWord(places, state);
        }

        long sumOf(int letters) {
            return letters >= 0 && letters < sums.length ? sums[letters] : 0;
        }

        long sumWithTaken(int set) {
            long sum = 0;
            for (int state = 0; state < countStates(); state++) {
                if ((state & set) == set) {
                    sum += weightOf(state);
                }
            }
            return sum;
        }

        long flowInto(int state) {
            long flow = 0;
            if (isTaken(state, 0)) {
                flow += weightOf(state ^ 1) * rateIn();
            }
            if (!isTaken(state, places - 1)) {
                flow += weightOf(state ^ 1 << places - 1) * rateOut();
            }
            for (int place = 0; place < places - 1; place++) {
                if (!isTaken(state, place) && isTaken(state, place + 1)) {
                    flow += weightOf(state ^ 3 << place) * rateOfStep();
                }
            }
            return flow;
        }

        long flowOutOf(int state) {
            long rates = 0;
            if (!isTaken(state, 0)) {
                rates += rateIn();
            }
            if (isTaken(state, places - 1)) {
                rates += rateOut();
            }
            for (int place = 0; place < places - 1; place++) {
                if (isTaken(state, place) && !isTaken(state, place + 1)) {
                    rates += rateOfStep();
                }
            }
            return weightOf(state) * rates;
        }

        int heaviestState() {
            int best = 0;
            for (int state = 1; state < countStates(); state++) {
                if (weightOf(state) > weightOf(best)) {
                    best = state;
                }
            }
            return best;
        }

        int lightestState() {
            int best = 0;
            for (int state = 1; state < countStates(); state++) {
                if (weightOf(state) < weightOf(best)) {
                    best = state;
                }
            }
            return best;
        }

        // Flows are told times x and y, so the rates 1 by x, 1 by y and 1 become whole numbers.

        private long rateIn() {
            return y;
        }

        private long rateOut() {
            return x;
        }

        private long rateOfStep() {
            return (long) x * y;
        }

        private void weighAllWords() {
            weights[1] = 1;
            sums[0] = 1;
            // Shorter words first: each weight is made of weights of words one letter shorter.
            for (int letters = 1; letters <= LONGEST_ROW; letters++) {
                long sum = 0;
                for (int state = 0; state < 1 << letters; state++) {
                    long weight = weigh(letters, state);
                    weights[(1 << letters) + state] = weight;
                    sum += weight;
                }
                sums[letters] = sum;
            }
        }

        private long weigh(int letters, int state) {
            if (!isTaken(state, 0)) {
                return x * weightOfWord(letters - 1, state >> 1);
            }
            if (isTaken(state, letters - 1)) {
                return y * weightOfWord(letters - 1, state ^ 1 << letters - 1);
            }
            int last = lastOfLeadingTaken(letters, state);
            int ahead = state & (1 << last) - 1;
            int behind = state >> last + 2 << last + 1;
            return weightOfWord(letters - 1, ahead | 1 << last | behind)
                    + weightOfWord(letters - 1, ahead | behind);
        }

        /** The word begins with D and ends with E, so the D's at its head end ahead of its last letter. */
        private static int lastOfLeadingTaken(int letters, int state) {
            int place = 0;
            while (place < letters - 1 && isTaken(state, place + 1)) {
                place++;
            }
            return place;
        }

        private long weightOfWord(int letters, int state) {
            int index = (1 << letters) + state;
            return index >= 0 && index < weights.length ? weights[index] : 0;
        }
    }

    /** Rings of two sorts; rows, and the places of a sort, are bits. */
    private static final class Rings {
        /** One taken at least in the upper row, more in the lower one, and one free there. */
        static boolean areRows(int m, int upper, int lower) {
            int full = (1 << m) - 1;
            if (!isWithin(upper, 1, full) || !isWithin(lower, 1, full - 1)) {
                return false;
            }
            return Integer.bitCount(lower) > Integer.bitCount(upper);
        }

        /** The places of the lower row that the upper one uses: those of sort 1. */
        static int servedPlaces(int m, int upper, int lower) {
            int used = 0;
            for (int place = 0; place < m; place++) {
                if (isTaken(upper, place)) {
                    used |= firstFrom(m, place, lower & ~used);
                }
            }
            return used;
        }

        /** The first of the places from this one on downwards, as a bit; 0 if there are none. */
        private static int firstFrom(int m, int place, int places) {
            int candidate = place;
            for (int turn = 0; turn < m; turn++) {
                if (isTaken(places, candidate)) {
                    return 1 << candidate;
                }
                candidate = candidate == 0 ? m - 1 : candidate - 1;
            }
            return 0;
        }

        static int numberOf(int m, int first, int lower) {
            int number = 0;
            for (int place = m - 1; place >= 0; place--) {
                int sort = 0;
                if (isTaken(lower, place)) {
                    sort = isTaken(first, place) ? 1 : 2;
                }
                number = 3 * number + sort;
            }
            return number;
        }

        static int greatestNumber(int m) {
            int number = 0;
            for (int place = 0; place < m; place++) {
                number = 3 * number + 2;
            }
            return number;
        }

        static int placesOfSort(int m, int ring, int sort) {
            int places = 0;
            int rest = ring;
            for (int place = 0; place < m; place++) {
                if (rest % 3 == sort) {
                    places |= 1 << place;
                }
                rest /= 3;
            }
            return places;
        }

        /** A ring tells its lower row, so only upper rows, with one taken for each 1, are tried. */
        static int countUpperRows(int m, int first, int lower) {
            int count = 0;
            for (int upper = 1; upper < 1 << m; upper++) {
                if (Integer.bitCount(upper) == Integer.bitCount(first)
                        && servedPlaces(m, upper, lower) == first) {
                    count++;
                }
            }
            return count;
        }
    }

    /** The row that is stepped; at most 30 places, so the places of sorts 1 and 2 are the bits of an int each. */
    private static final class Stepped {
        /** 0 as long as nothing is stepped. */
        private int places;
        private boolean open;
        private int firsts;
        private int seconds;
        private int lot;
        private int comeIn;
        private int goneOut;
        private int moved;

        void begin(int newPlaces, boolean isOpen) {
            places = newPlaces;
            open = isOpen;
            firsts = 0;
            seconds = 0;
            lot = 1;
            comeIn = 0;
            goneOut = 0;
            moved = 0;
        }

        boolean isThere() {
            return places > 0;
        }

        /** With nothing stepped, a place that some row could have is not wrong in itself. */
        boolean mayHavePlace(int place) {
            return place >= 0 && place < (isThere() ? places : MOST_STEPPED);
        }

        int sortAt(int place) {
            if (isTaken(firsts, place)) {
                return 1;
            }
            return isTaken(seconds, place) ? 2 : 0;
        }

        void put(int place, int sort) {
            int bit = 1 << place;
            firsts = sort == 1 ? firsts | bit : firsts & ~bit;
            seconds = sort == 2 ? seconds | bit : seconds & ~bit;
        }

        void sow(int newLot) {
            lot = newLot;
        }

        int countOfSort(int sort) {
            return Integer.bitCount(sort == 1 ? firsts : seconds);
        }

        int tell(int what) {
            switch (what) {
                case 0:
                    return places;
                case 1:
                    return open ? 1 : 0;
                case 2:
                    return comeIn;
                case 3:
                    return goneOut;
                case 4:
                    return moved;
                case 5:
                    return countOfSort(1);
                case 6:
                    return countOfSort(2);
                default:
                    return Integer.bitCount(firstsWithFreeBehind());
            }
        }

        int stepSingly(int times) {
            int changes = 0;
            for (int time = 0; time < times; time++) {
                if (stepOnce(draw())) {
                    changes++;
                }
            }
            return changes;
        }

        private int draw() {
            // The product's lowest 31 bits are the same with Java's wrap-around.
            lot = lot * 1103515245 + 12345 & LOWEST_31_BITS;
            int choices = places + 1;
            return choices > 0 ? (lot >> 16) % choices : 0;
        }

        private boolean stepOnce(int drawn) {
            int last = places - 1;
            if (drawn < last) {
                return exchange(drawn, drawn + 1);
            }
            if (drawn == last) {
                return open ? comeToFirstPlace() : exchange(last, 0);
            }
            return open && goFromLastPlace();
        }

        private boolean exchange(int left, int right) {
            int mover = sortAt(left);
            int other = sortAt(right);
            boolean givesWay = mover == 1 && other != 1 || mover == 2 && other == 0;
            if (givesWay) {
                put(left, other);
                put(right, mover);
                moved++;
            }
            return givesWay;
        }

        private boolean comeToFirstPlace() {
            int before = sortAt(0);
            if (before == 1) {
                return false;
            }
            if (before == 2) {
                goneOut++;
            }
            put(0, 1);
            comeIn++;
            return true;
        }

        private boolean goFromLastPlace() {
            if (sortAt(places - 1) != 1) {
                return false;
            }
            put(places - 1, 0);
            goneOut++;
            return true;
        }

        int stepAllAtOnce(int times) {
            int movedBefore = moved;
            for (int time = 0; time < times; time++) {
                if (open) {
                    stepOpenRow();
                } else {
                    stepRing();
                }
            }
            return moved - movedBefore;
        }

        private void stepOpenRow() {
            int movers = firstsWithFreeBehind();
            int coming = ~firsts & 1;
            int going = firsts & 1 << places - 1;
            firsts = firsts & ~movers & ~going | movers << 1 | coming;
            moved += Integer.bitCount(movers);
            comeIn += coming;
            goneOut += Integer.bitCount(going);
        }

        private void stepRing() {
            int movers = firstsWithFreeBehind();
            int around = movers >> places - 1;
            int ahead = movers << 1 & allPlaces();
            firsts = firsts & ~movers | ahead | around;
            moved += Integer.bitCount(movers);
        }

        /** Behind the last place of a ring comes place 0; behind that of an open row comes none. */
        private int firstsWithFreeBehind() {
            int free = allPlaces() & ~firsts & ~seconds;
            int around = open ? 0 : (free & 1) << places - 1;
            return firsts & (free >> 1 | around);
        }

        private int allPlaces() {
            return (1 << places) - 1;
        }
    }
}
