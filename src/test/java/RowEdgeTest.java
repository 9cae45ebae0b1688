/** The edges that promises 1 to 9 name: THE ROW, the shortest and the longest one, the empty and the full one. */
public final class RowEdgeTest {
    private static final int LEAST = Integer.MIN_VALUE;
    private static final int GREATEST = Integer.MAX_VALUE;
    private static final Check CHECK = new Check();

    public static void main(String[] args) {
        promise1OnePlaceAtFirst();
        promise1RatesOneAtFirst();
        promise1NothingSteppedAtFirst();
        promise2OneToEightPlaces();
        promise2RatesOneToNine();
        promise2RefusedChangesNothing();
        promise2RowLeavesWhatIsStepped();
        promise3FirstAndLastState();
        promise3EmptyAndFullRow();
        promise3FirstLetterE();
        promise3LastLetterD();
        promise3SameWherever();
        promise4NoneToEightPlaces();
        promise4SumIsOfAllStates();
        promise4SumBeyondTheRow();
        promise5FirstAndLastState();
        promise5AboveAndBelow();
        promise5LowestTerms();
        promise6OnePlace();
        promise6EightPlaces();
        promise6AboveAndBelow();
        promise6LowestTerms();
        promise7EmptySet();
        promise7FullSet();
        promise7OnePlaceOfTheSet();
        promise7WrongSets();
        promise8OnePlace();
        promise8EmptyRow();
        promise8FullRow();
        promise8OnlyToFreePlaces();
        promise8FlowsAreAlike();
        promise8WrongNumbers();
        promise9OnePlace();
        promise9OfSeveralTheLeast();
        promise9WrongNumbers();
        refusedQuestionsChangeNothing();
        CHECK.end();
    }

    private static OnePlaceEach rowOf(int n, int x, int y) {
        OnePlaceEach row = new OnePlaceEach();
        CHECK.due("row(" + n + ", " + x + ", " + y + ")", 1L << n, row.row(n, x, y));
        return row;
    }

    private static void fraction(String name, long above, long below, long gotAbove, long gotBelow) {
        CHECK.due(name + ", above", above, gotAbove);
        CHECK.due(name + ", below", below, gotBelow);
    }

    private static long power(long base, int times) {
        long product = 1;
        for (int time = 0; time < times; time++) {
            product *= base;
        }
        return product;
    }

    // ---- Promise 1: "THE ROW of one PLACE, x and y 1; nothing STEPPED."

    private static void promise1OnePlaceAtFirst() {
        OnePlaceEach fresh = new OnePlaceEach();
        CHECK.due("new: the last state", 1, fresh.weight(1));
        CHECK.bad("new: a state of two places", fresh.weight(2));
        CHECK.bad("new: a chance of two places", fresh.chance(2, 0));
        CHECK.bad("new: a set of two places", fresh.taken(2, 0));
        CHECK.bad("new: a flow of two places", fresh.flow(2, 0));
        fraction("new: current", 1, 2, fresh.current(0), fresh.current(1));
    }

    private static void promise1RatesOneAtFirst() {
        OnePlaceEach fresh = new OnePlaceEach();
        long[] sums = {1, 2, 5, 14, 42, 132, 429, 1430, 4862};
        for (int k = 0; k < sums.length; k++) {
            CHECK.due("new: sum(" + k + ")", sums[k], fresh.sum(k));
        }
        CHECK.due("new: flow into the free one", 1, fresh.flow(0, 0));
        CHECK.due("new: flow out of the taken one", 1, fresh.flow(1, 1));
    }

    private static void promise1NothingSteppedAtFirst() {
        OnePlaceEach fresh = new OnePlaceEach();
        for (int what = 0; what <= 7; what++) {
            CHECK.no("new: told(" + what + ")", fresh.told(what));
        }
        CHECK.no("new: at(0)", fresh.at(0));
        CHECK.no("new: set(0, 0)", fresh.set(0, 0));
        CHECK.no("new: seed(1)", fresh.seed(1));
        CHECK.no("new: go(1)", fresh.go(1));
        CHECK.no("new: together(1)", fresh.together(1));
    }

    // ---- Promise 2: "THE ROW: how many STATES. BAD." n 1 to 8, x and y 1 to 9

    private static void promise2OneToEightPlaces() {
        OnePlaceEach row = new OnePlaceEach();
        CHECK.due("row(1, 1, 1)", 2, row.row(1, 1, 1));
        CHECK.due("row(8, 1, 1)", 256, row.row(8, 1, 1));
        for (int n : new int[] {0, 9, -1, -8, 32, 33, 40, LEAST, GREATEST}) {
            CHECK.bad("row(" + n + ", 1, 1)", row.row(n, 1, 1));
        }
    }

    private static void promise2RatesOneToNine() {
        OnePlaceEach row = new OnePlaceEach();
        for (int rate = 1; rate <= 9; rate++) {
            CHECK.due("row(8, " + rate + ", 1)", 256, row.row(8, rate, 1));
            CHECK.due("row(1, 1, " + rate + ")", 2, row.row(1, 1, rate));
        }
        for (int rate : new int[] {0, 10, -1, -9, LEAST, GREATEST}) {
            CHECK.bad("row(1, " + rate + ", 1)", row.row(1, rate, 1));
            CHECK.bad("row(1, 1, " + rate + ")", row.row(1, 1, rate));
            CHECK.bad("row(8, " + rate + ", " + rate + ")", row.row(8, rate, rate));
        }
    }

    private static void promise2RefusedChangesNothing() {
        Refusal refusal = new Refusal(CHECK, RowEdgeTest::past);
        refusal.bad("row(0, 4, 5)", object -> object.row(0, 4, 5));
        refusal.bad("row(9, 4, 5)", object -> object.row(9, 4, 5));
        refusal.bad("row(2, 0, 5)", object -> object.row(2, 0, 5));
        refusal.bad("row(2, 10, 5)", object -> object.row(2, 10, 5));
        refusal.bad("row(2, 4, 0)", object -> object.row(2, 4, 0));
        refusal.bad("row(2, 4, 10)", object -> object.row(2, 4, 10));
        refusal.bad("row(9, 10, 0)", object -> object.row(9, 10, 0));
    }

    private static void past(OnePlaceEach object) {
        object.row(6, 2, 3);
        object.step(7, true);
        object.set(2, 1);
        object.set(4, 2);
        object.seed(12345);
        object.go(20);
    }

    private static void promise2RowLeavesWhatIsStepped() {
        OnePlaceEach object = new OnePlaceEach();
        OnePlaceEach twin = new OnePlaceEach();
        past(object);
        past(twin);
        object.row(8, 9, 9);
        for (int what = 0; what <= 7; what++) {
            CHECK.due("told(" + what + ") after row", twin.told(what), object.told(what));
        }
        CHECK.due("go(1000) after row", twin.go(1000), object.go(1000));
        object.step(2, false);
        CHECK.due("sum(8) after step", 788671998L, object.sum(8));
        CHECK.due("weight(255) after step", 43046721L, object.weight(255));
    }

    // ---- Promise 3: "ITS WEIGHT. BAD."

    private static void promise3FirstAndLastState() {
        OnePlaceEach row = new OnePlaceEach();
        for (int n = 1; n <= 8; n++) {
            row.row(n, 1, 1);
            CHECK.due("first state of " + n, 1, row.weight(0));
            CHECK.due("last state of " + n, 1, row.weight((1 << n) - 1));
            for (int state : new int[] {-1, 1 << n, -(1 << n), LEAST, GREATEST}) {
                CHECK.bad("weight(" + state + ") of " + n, row.weight(state));
            }
        }
        row.row(3, 1, 1);
        CHECK.bad("a state of the longer row before", row.weight(255));
    }

    private static void promise3EmptyAndFullRow() {
        for (int rates = 0; rates < 81; rates++) {
            int x = 1 + rates / 9;
            int y = 1 + rates % 9;
            for (int n = 1; n <= 8; n++) {
                OnePlaceEach row = rowOf(n, x, y);
                CHECK.due("empty row", power(x, n), row.weight(0));
                CHECK.due("full row", power(y, n), row.weight((1 << n) - 1));
            }
        }
    }

    private static void promise3FirstLetterE() {
        CHECK.due("E", 4, rowOf(1, 4, 7).weight(0));
        CHECK.due("ED: both ends may be taken off", 28, rowOf(2, 4, 7).weight(2));
        for (int n = 2; n <= 8; n++) {
            OnePlaceEach row = rowOf(n, 4, 7);
            OnePlaceEach shorter = rowOf(n - 1, 4, 7);
            for (int behind = 0; behind < 1 << n - 1; behind++) {
                CHECK.due("E ahead of " + behind, 4 * shorter.weight(behind), row.weight(2 * behind));
            }
        }
    }

    private static void promise3LastLetterD() {
        CHECK.due("D", 7, rowOf(1, 4, 7).weight(1));
        for (int n = 2; n <= 8; n++) {
            OnePlaceEach row = rowOf(n, 4, 7);
            OnePlaceEach shorter = rowOf(n - 1, 4, 7);
            for (int ahead = 0; ahead < 1 << n - 1; ahead++) {
                CHECK.due("D behind " + ahead, 7 * shorter.weight(ahead), row.weight(ahead + (1 << n - 1)));
            }
        }
    }

    /** "D and E side by side somewhere .. (it is the same wherever)": each such pair of each word. */
    private static void promise3SameWherever() {
        CHECK.due("DE", 11, rowOf(2, 4, 7).weight(1));
        for (int n = 2; n <= 8; n++) {
            for (int place = 0; place + 1 < n; place++) {
                OnePlaceEach row = rowOf(n, 4, 7);
                OnePlaceEach shorter = rowOf(n - 1, 4, 7);
                for (int state = 0; state < 1 << n; state++) {
                    if ((state >> place & 3) == 1) {
                        int ahead = state % (1 << place);
                        int behind = state >> place + 2 << place + 1;
                        long due = shorter.weight(ahead + behind) + shorter.weight(ahead + behind + (1 << place));
                        CHECK.due("DE at " + place + " of " + state, due, row.weight(state));
                    }
                }
            }
        }
    }

    // ---- Promise 4: "THE SUM of k PLACES (0 to 8), by x and y. BAD."

    private static void promise4NoneToEightPlaces() {
        for (int n = 1; n <= 8; n++) {
            OnePlaceEach row = rowOf(n, 9, 9);
            CHECK.due("sum(0)", 1, row.sum(0));
            CHECK.due("sum(1)", 18, row.sum(1));
            CHECK.due("sum(8)", 788671998L, row.sum(8));
            for (int k : new int[] {-1, 9, -8, 32, LEAST, GREATEST}) {
                CHECK.bad("sum(" + k + ")", row.sum(k));
            }
        }
    }

    private static void promise4SumIsOfAllStates() {
        for (int n = 1; n <= 8; n++) {
            OnePlaceEach row = rowOf(n, 5, 2);
            long sum = 0;
            for (int state = 0; state < 1 << n; state++) {
                sum += row.weight(state);
            }
            CHECK.due("sum(" + n + ")", sum, row.sum(n));
        }
    }

    private static void promise4SumBeyondTheRow() {
        OnePlaceEach shortest = rowOf(1, 2, 3);
        OnePlaceEach longest = rowOf(8, 2, 3);
        for (int k = 0; k <= 8; k++) {
            CHECK.due("sum(" + k + ") of a row of one", longest.sum(k), shortest.sum(k));
        }
        CHECK.due("sum(2) by 2 and 3", 24, shortest.sum(2));
        CHECK.due("sum(3) by 2 and 3", 113, shortest.sum(3));
    }

    // ---- Promise 5: "CHANCE: above (what = 0), below (1). BAD."

    private static void promise5FirstAndLastState() {
        for (int n = 1; n <= 8; n++) {
            OnePlaceEach row = rowOf(n, 1, 1);
            fraction("empty", 1, row.sum(n), row.chance(0, 0), row.chance(0, 1));
            int full = (1 << n) - 1;
            fraction("full", 1, row.sum(n), row.chance(full, 0), row.chance(full, 1));
            for (int state : new int[] {-1, 1 << n, LEAST, GREATEST}) {
                CHECK.bad("chance(" + state + ", 0)", row.chance(state, 0));
                CHECK.bad("chance(" + state + ", 1)", row.chance(state, 1));
                CHECK.bad("chance(" + state + ", 2)", row.chance(state, 2));
            }
        }
    }

    private static void promise5AboveAndBelow() {
        OnePlaceEach row = rowOf(1, 5, 7);
        fraction("free", 5, 12, row.chance(0, 0), row.chance(0, 1));
        fraction("taken", 7, 12, row.chance(1, 0), row.chance(1, 1));
        for (int what : new int[] {-1, 2, LEAST, GREATEST}) {
            CHECK.bad("chance(0, " + what + ")", row.chance(0, what));
        }
    }

    private static void promise5LowestTerms() {
        OnePlaceEach row = rowOf(3, 1, 1);
        fraction("2 by 14", 1, 7, row.chance(2, 0), row.chance(2, 1));
        fraction("3 by 14", 3, 14, row.chance(3, 0), row.chance(3, 1));
        OnePlaceEach even = rowOf(1, 9, 9);
        fraction("9 by 18", 1, 2, even.chance(0, 0), even.chance(0, 1));
    }

    // ---- Promise 6: "THE CURRENT: above (0), below (1). BAD."; "THE SUM of n - 1 (of 0: 1)"

    private static void promise6OnePlace() {
        for (int rates = 0; rates < 81; rates++) {
            int x = 1 + rates / 9;
            int y = 1 + rates % 9;
            OnePlaceEach row = rowOf(1, x, y);
            fraction("current of one", 1, x + y, row.current(0), row.current(1));
        }
    }

    private static void promise6EightPlaces() {
        OnePlaceEach row = rowOf(8, 9, 9);
        fraction("current of eight", 1287809, 14605037, row.current(0), row.current(1));
        OnePlaceEach plain = rowOf(8, 1, 1);
        fraction("1430 by 4862", 5, 17, plain.current(0), plain.current(1));
    }

    private static void promise6AboveAndBelow() {
        OnePlaceEach row = rowOf(2, 1, 1);
        fraction("current of two", 2, 5, row.current(0), row.current(1));
        for (int what : new int[] {-1, 2, LEAST, GREATEST}) {
            CHECK.bad("current(" + what + ")", row.current(what));
        }
    }

    private static void promise6LowestTerms() {
        OnePlaceEach row = rowOf(4, 1, 1);
        fraction("14 by 42", 1, 3, row.current(0), row.current(1));
    }

    // ---- Promise 7: "The chance that all PLACES of a set (as bits) are taken: above (0), below (1). BAD."

    private static void promise7EmptySet() {
        for (int n = 1; n <= 8; n++) {
            OnePlaceEach row = rowOf(n, 3, 5);
            fraction("empty set of " + n, 1, 1, row.taken(0, 0), row.taken(0, 1));
        }
    }

    private static void promise7FullSet() {
        for (int n = 1; n <= 8; n++) {
            OnePlaceEach row = rowOf(n, 3, 5);
            int full = (1 << n) - 1;
            fraction("full set of " + n, row.chance(full, 0), row.chance(full, 1), row.taken(full, 0), row.taken(full, 1));
        }
    }

    private static void promise7OnePlaceOfTheSet() {
        OnePlaceEach row = rowOf(3, 1, 1);
        fraction("place 0", 9, 14, row.taken(1, 0), row.taken(1, 1));
        fraction("place 1, in lowest terms", 1, 2, row.taken(2, 0), row.taken(2, 1));
        fraction("the last place", 5, 14, row.taken(4, 0), row.taken(4, 1));
        fraction("both ends", 3, 14, row.taken(5, 0), row.taken(5, 1));
    }

    private static void promise7WrongSets() {
        for (int n = 1; n <= 8; n++) {
            OnePlaceEach row = rowOf(n, 1, 1);
            for (int set : new int[] {-1, 1 << n, (1 << n) + 1, LEAST, GREATEST}) {
                CHECK.bad("taken(" + set + ", 0) of " + n, row.taken(set, 0));
                CHECK.bad("taken(" + set + ", 1) of " + n, row.taken(set, 1));
            }
            for (int what : new int[] {-1, 2, LEAST, GREATEST}) {
                CHECK.bad("taken(0, " + what + ")", row.taken(0, what));
            }
        }
    }

    // ---- Promise 8: "FLOW into a STATE (what = 0), out of it (1). BAD."

    /** Of one place: in and out are at the same place, and nobody steps. */
    private static void promise8OnePlace() {
        OnePlaceEach row = rowOf(1, 5, 7);
        for (int state = 0; state <= 1; state++) {
            CHECK.due("flow into " + state, 35, row.flow(state, 0));
            CHECK.due("flow out of " + state, 35, row.flow(state, 1));
        }
    }

    /** Out of it one comes, by y; into it the last one goes, by x. */
    private static void promise8EmptyRow() {
        for (int n = 1; n <= 8; n++) {
            OnePlaceEach row = rowOf(n, 5, 7);
            long due = power(5, n) * 7;
            CHECK.due("flow out of the empty row of " + n, due, row.flow(0, 1));
            CHECK.due("flow into the empty row of " + n, due, row.flow(0, 0));
        }
    }

    /** Out of it the last one goes, by x; into it one comes, by y. */
    private static void promise8FullRow() {
        for (int n = 1; n <= 8; n++) {
            OnePlaceEach row = rowOf(n, 5, 7);
            int full = (1 << n) - 1;
            long due = power(7, n) * 5;
            CHECK.due("flow out of the full row of " + n, due, row.flow(full, 1));
            CHECK.due("flow into the full row of " + n, due, row.flow(full, 0));
        }
    }

    private static void promise8OnlyToFreePlaces() {
        OnePlaceEach row = rowOf(2, 5, 7);
        CHECK.due("DE: the step alone", 12 * 35, row.flow(1, 1));
        CHECK.due("ED: one comes, one goes", 35 * (7 + 5), row.flow(2, 1));
        OnePlaceEach longer = rowOf(3, 2, 3);
        CHECK.due("DDE: of two the last one alone steps", 14 * 6, longer.flow(3, 1));
        CHECK.due("DED: one steps, one goes", 15 * (6 + 2), longer.flow(5, 1));
        CHECK.due("EDE: one comes, one steps", 10 * (3 + 6), longer.flow(2, 1));
        CHECK.due("EED, into it: a step to the last place", 12 * (3 + 2), longer.flow(4, 0));
    }

    /** "(They are alike.)": of each state; into EDD a step leads, and one who goes or comes does not. */
    private static void promise8FlowsAreAlike() {
        CHECK.due("EDD, into it: a step to place 1", 18 * (3 + 2), rowOf(3, 2, 3).flow(6, 0));
        CHECK.due("EDE, into it: a step to place 1, and one goes", 10 * (3 + 6), rowOf(3, 2, 3).flow(2, 0));
        for (int n = 1; n <= 8; n++) {
            for (int rates = 0; rates < 81; rates += 7) {
                OnePlaceEach row = rowOf(n, 1 + rates / 9, 1 + rates % 9);
                for (int state = 0; state < 1 << n && state < 200; state++) {
                    CHECK.due("flows of " + state + " of " + n, row.flow(state, 1), row.flow(state, 0));
                }
            }
        }
    }

    private static void promise8WrongNumbers() {
        for (int n = 1; n <= 8; n++) {
            OnePlaceEach row = rowOf(n, 2, 3);
            for (int state : new int[] {-1, 1 << n, LEAST, GREATEST}) {
                CHECK.bad("flow(" + state + ", 0) of " + n, row.flow(state, 0));
                CHECK.bad("flow(" + state + ", 1) of " + n, row.flow(state, 1));
            }
            for (int what : new int[] {-1, 2, LEAST, GREATEST}) {
                CHECK.bad("flow(0, " + what + ")", row.flow(0, what));
            }
        }
    }

    // ---- Promise 9: "The STATE of greatest WEIGHT (what = 0), of least (1); of several the least. BAD."

    private static void promise9OnePlace() {
        extremes(rowOf(1, 1, 9), 1, 0);
        extremes(rowOf(1, 9, 1), 0, 1);
        extremes(rowOf(1, 4, 4), 0, 0);
    }

    private static void promise9OfSeveralTheLeast() {
        extremes(rowOf(3, 1, 1), 1, 0);
        extremes(rowOf(8, 9, 9), 0, 15);
        // EE 4, DE 4, ED 4, DD 4: all alike.
        extremes(rowOf(2, 2, 2), 0, 0);
    }

    private static void extremes(OnePlaceEach row, int greatest, int least) {
        CHECK.due("state of greatest weight", greatest, row.extreme(0));
        CHECK.due("state of least weight", least, row.extreme(1));
    }

    private static void promise9WrongNumbers() {
        OnePlaceEach row = rowOf(2, 1, 1);
        for (int what : new int[] {-1, 2, LEAST, GREATEST}) {
            CHECK.bad("extreme(" + what + ")", row.extreme(what));
        }
    }

    // ---- "BAD .. nothing changes then."

    private static void refusedQuestionsChangeNothing() {
        Refusal refusal = new Refusal(CHECK, RowEdgeTest::past);
        refusal.bad("weight(-1)", object -> object.weight(-1));
        refusal.bad("weight(64)", object -> object.weight(64));
        refusal.bad("sum(-1)", object -> object.sum(-1));
        refusal.bad("sum(9)", object -> object.sum(9));
        refusal.bad("chance(-1, 0)", object -> object.chance(-1, 0));
        refusal.bad("chance(64, 0)", object -> object.chance(64, 0));
        refusal.bad("chance(0, -1)", object -> object.chance(0, -1));
        refusal.bad("chance(0, 2)", object -> object.chance(0, 2));
        refusal.bad("current(2)", object -> object.current(2));
        refusal.bad("current(-1)", object -> object.current(-1));
        refusal.bad("taken(-1, 0)", object -> object.taken(-1, 0));
        refusal.bad("taken(64, 0)", object -> object.taken(64, 0));
        refusal.bad("taken(0, -1)", object -> object.taken(0, -1));
        refusal.bad("taken(0, 2)", object -> object.taken(0, 2));
        refusal.bad("flow(-1, 0)", object -> object.flow(-1, 0));
        refusal.bad("flow(64, 0)", object -> object.flow(64, 0));
        refusal.bad("flow(0, -1)", object -> object.flow(0, -1));
        refusal.bad("flow(0, 2)", object -> object.flow(0, 2));
        refusal.bad("extreme(2)", object -> object.extreme(2));
        refusal.bad("extreme(-1)", object -> object.extreme(-1));
    }
}
