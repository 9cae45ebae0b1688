import java.math.BigInteger;
import java.util.HashMap;
import java.util.Map;

/** Promises 1 to 9: THE ROW, by the document's words of two letters and by the chain's events, one by one. */
public final class RowTest {
    private static final int[] WRONG_WHATS = {-1, 2, 3, Integer.MIN_VALUE, Integer.MAX_VALUE};
    private static final Check CHECK = new Check();

    public static void main(String[] args) {
        promise1NewObject();
        promise2Row();
        promise2WrongRowChangesNothing();
        promise3Weight();
        promise4Sum();
        promise6Current();
        promise7Pairs();
        promise9Extreme();
        wrongNumbers();
        for (int x = 1; x <= 9; x++) {
            for (int y = 1; y <= 9; y++) {
                againstWords(x, y);
            }
        }
        promise2EveryChange();
        oneObjectManyRows();
        CHECK.end();
    }

    private static void promise1NewObject() {
        OnePlaceEach fresh = new OnePlaceEach();
        CHECK.due("new: weight(0)", 1, fresh.weight(0));
        CHECK.due("new: weight(1)", 1, fresh.weight(1));
        CHECK.bad("new: weight(2)", fresh.weight(2));
        CHECK.due("new: sum(1)", 2, fresh.sum(1));
        CHECK.due("new: sum(2)", 5, fresh.sum(2));
        CHECK.no("new: told(0)", fresh.told(0));
        CHECK.due("second new object is its own", 4, changedBeside(fresh));
    }

    private static int changedBeside(OnePlaceEach other) {
        OnePlaceEach fresh = new OnePlaceEach();
        int states = fresh.row(2, 3, 4);
        CHECK.due("other object's sum(1)", 2, other.sum(1));
        return states;
    }

    private static void promise2Row() {
        OnePlaceEach row = new OnePlaceEach();
        for (int n = 1; n <= 8; n++) {
            CHECK.due("row(" + n + ", 9, 1)", 1 << n, row.row(n, 9, 1));
            CHECK.due("row(" + n + ", 1, 9)", 1 << n, row.row(n, 1, 9));
        }
        for (int wrong : new int[] {0, -1, Integer.MIN_VALUE, Integer.MAX_VALUE}) {
            CHECK.bad("row(" + wrong + ", 1, 1)", row.row(wrong, 1, 1));
            CHECK.bad("row(1, " + wrong + ", 1)", row.row(1, wrong, 1));
            CHECK.bad("row(1, 1, " + wrong + ")", row.row(1, 1, wrong));
        }
        CHECK.bad("row(9, 1, 1)", row.row(9, 1, 1));
        CHECK.bad("row(1, 10, 1)", row.row(1, 10, 1));
        CHECK.bad("row(1, 1, 10)", row.row(1, 1, 10));
    }

    private static void promise2WrongRowChangesNothing() {
        OnePlaceEach row = new OnePlaceEach();
        row.row(3, 2, 3);
        row.row(9, 4, 5);
        row.row(2, 10, 5);
        row.row(2, 4, 0);
        CHECK.due("sum(3) after wrong rows", 113, row.sum(3));
        CHECK.due("weight(7) after wrong rows", 27, row.weight(7));
        CHECK.bad("weight(8) after wrong rows", row.weight(8));
    }

    private static void promise3Weight() {
        OnePlaceEach row = new OnePlaceEach();
        row.row(2, 5, 7);
        CHECK.due("EE", 25, row.weight(0));
        CHECK.due("DE", 12, row.weight(1));
        CHECK.due("ED", 35, row.weight(2));
        CHECK.due("DD", 49, row.weight(3));
        row.row(3, 2, 3);
        CHECK.due("DDE", 14, row.weight(3));
        CHECK.due("DEE", 9, row.weight(1));
    }

    private static void promise4Sum() {
        OnePlaceEach row = new OnePlaceEach();
        long[] catalan = {1, 2, 5, 14, 42, 132, 429, 1430, 4862};
        for (int k = 0; k <= 8; k++) {
            CHECK.due("sum(" + k + ") by 1 and 1", catalan[k], row.sum(k));
        }
        row.row(1, 9, 9);
        CHECK.due("sum(8) by 9 and 9, in a row of one", 788671998L, row.sum(8));
        CHECK.due("sum(0) by 9 and 9", 1, row.sum(0));
    }

    private static void promise6Current() {
        OnePlaceEach row = new OnePlaceEach();
        row.row(1, 5, 7);
        CHECK.due("current above, one place", 1, row.current(0));
        CHECK.due("current below, one place", 12, row.current(1));
        row.row(2, 1, 1);
        CHECK.due("current above, two places", 2, row.current(0));
        CHECK.due("current below, two places", 5, row.current(1));
        row.row(4, 1, 1);
        CHECK.due("current above is in lowest terms", 1, row.current(0));
        CHECK.due("current below is in lowest terms", 3, row.current(1));
    }

    private static void promise7Pairs() {
        OnePlaceEach row = new OnePlaceEach();
        row.row(3, 1, 1);
        CHECK.due("taken(0, 0)", 1, row.taken(0, 0));
        CHECK.due("taken(0, 1)", 1, row.taken(0, 1));
        CHECK.due("taken(3, 0)", 2, row.taken(3, 0));
        CHECK.due("taken(3, 1)", 7, row.taken(3, 1));
        CHECK.due("taken(7, 0)", 1, row.taken(7, 0));
        CHECK.due("taken(7, 1)", 14, row.taken(7, 1));
    }

    private static void promise9Extreme() {
        OnePlaceEach row = new OnePlaceEach();
        row.row(3, 1, 1);
        CHECK.due("greatest, the least of two", 1, row.extreme(0));
        CHECK.due("least, the least of four", 0, row.extreme(1));
        row.row(3, 2, 3);
        CHECK.due("greatest at the upper end", 7, row.extreme(0));
        CHECK.due("least at the lower end", 0, row.extreme(1));
        row.row(8, 9, 9);
        CHECK.due("least in the midst", 15, row.extreme(1));
    }

    private static void wrongNumbers() {
        OnePlaceEach row = new OnePlaceEach();
        for (int n = 1; n <= 8; n++) {
            row.row(n, 2, 3);
            for (int state : new int[] {-1, 1 << n, (1 << n) + 1, 512, Integer.MIN_VALUE, Integer.MAX_VALUE}) {
                CHECK.bad("weight(" + state + ")", row.weight(state));
                for (int what = 0; what <= 1; what++) {
                    CHECK.bad("chance(" + state + ", " + what + ")", row.chance(state, what));
                    CHECK.bad("taken(" + state + ", " + what + ")", row.taken(state, what));
                    CHECK.bad("flow(" + state + ", " + what + ")", row.flow(state, what));
                }
            }
            for (int what : WRONG_WHATS) {
                CHECK.bad("chance(0, " + what + ")", row.chance(0, what));
                CHECK.bad("current(" + what + ")", row.current(what));
                CHECK.bad("taken(0, " + what + ")", row.taken(0, what));
                CHECK.bad("flow(0, " + what + ")", row.flow(0, what));
                CHECK.bad("extreme(" + what + ")", row.extreme(what));
            }
        }
        for (int k : new int[] {-1, 9, Integer.MIN_VALUE, Integer.MAX_VALUE}) {
            CHECK.bad("sum(" + k + ")", row.sum(k));
        }
    }

    private static void againstWords(int x, int y) {
        Map<String, Long> known = new HashMap<>();
        for (int n = 1; n <= 8; n++) {
            long[] weights = new long[1 << n];
            for (int state = 0; state < weights.length; state++) {
                weights[state] = weightOf(word(n, state), x, y, known);
            }
            answersOfRow(n, x, y, weights, sumOfWords(n - 1, x, y, known));
        }
    }

    private static void answersOfRow(int n, int x, int y, long[] weights, long shorterSum) {
        String name = "row(" + n + ", " + x + ", " + y + "): ";
        long sum = 0;
        for (long weight : weights) {
            sum += weight;
        }
        OnePlaceEach row = new OnePlaceEach();
        CHECK.due(name, weights.length, row.row(n, x, y));
        CHECK.due(name + "sum", sum, row.sum(n));
        CHECK.due(name + "shorter sum", shorterSum, row.sum(n - 1));
        fraction(name + "current", shorterSum, sum, row.current(0), row.current(1));
        CHECK.due(name + "greatest", extremeOf(weights, 1), row.extreme(0));
        CHECK.due(name + "least", extremeOf(weights, -1), row.extreme(1));
        long[][] flows = flowsOf(n, x, y, weights);
        for (int state = 0; state < weights.length; state++) {
            String here = name + state + " ";
            // An object is used for at most 512 calls, so a new one is asked now and then.
            if (state % 32 == 31) {
                row = new OnePlaceEach();
                row.row(n, x, y);
            }
            CHECK.due(here + "weight", weights[state], row.weight(state));
            fraction(here + "chance", weights[state], sum, row.chance(state, 0), row.chance(state, 1));
            fraction(here + "taken", sumOver(weights, state), sum, row.taken(state, 0), row.taken(state, 1));
            CHECK.due(here + "flow into", flows[0][state], row.flow(state, 0));
            CHECK.due(here + "flow out of", flows[1][state], row.flow(state, 1));
            CHECK.due(here + "flows are alike", row.flow(state, 1), row.flow(state, 0));
        }
    }

    /** From each pair of x and y to each other one: nothing of the row before is left. */
    private static void promise2EveryChange() {
        for (int before = 0; before < 81; before++) {
            OnePlaceEach row = new OnePlaceEach();
            for (int after = 0; after < 81; after++) {
                row.row(8, 1 + before / 9, 1 + before % 9);
                row.row(2, 1 + after / 9, 1 + after % 9);
                long x = 1 + after / 9;
                long y = 1 + after % 9;
                CHECK.due("sum(2) by " + x + " and " + y, x * x + x * y + y * y + x + y, row.sum(2));
            }
        }
    }

    private static void oneObjectManyRows() {
        OnePlaceEach row = new OnePlaceEach();
        for (int turn = 0; turn < 60; turn++) {
            int n = 1 + turn * 5 % 8;
            int x = 1 + turn * 7 % 9;
            int y = 1 + turn / 4 % 9;
            OnePlaceEach fresh = new OnePlaceEach();
            fresh.row(n, x, y);
            row.row(n, x, y);
            int state = turn * 37 % (1 << n);
            CHECK.due("weight in a changed row", fresh.weight(state), row.weight(state));
            CHECK.due("sum in a changed row", fresh.sum(8), row.sum(8));
            CHECK.due("flow in a changed row", fresh.flow(state, 0), row.flow(state, 0));
        }
    }

    private static String word(int n, int state) {
        StringBuilder letters = new StringBuilder();
        for (int place = 0; place < n; place++) {
            letters.append((state & 1 << place) != 0 ? 'D' : 'E');
        }
        return letters.toString();
    }

    /** Takes the LAST D and E side by side; the class is free to take another. */
    private static long weightOf(String word, int x, int y, Map<String, Long> known) {
        if (word.isEmpty()) {
            return 1;
        }
        Long before = known.get(word);
        if (before != null) {
            return before;
        }
        long weight;
        if (word.startsWith("E")) {
            weight = x * weightOf(word.substring(1), x, y, known);
        } else if (word.endsWith("D")) {
            weight = y * weightOf(word.substring(0, word.length() - 1), x, y, known);
        } else {
            int spot = word.lastIndexOf("DE");
            String ahead = word.substring(0, spot);
            String behind = word.substring(spot + 2);
            weight = weightOf(ahead + "D" + behind, x, y, known) + weightOf(ahead + "E" + behind, x, y, known);
        }
        known.put(word, weight);
        return weight;
    }

    private static long sumOfWords(int n, int x, int y, Map<String, Long> known) {
        long sum = 0;
        for (int state = 0; state < 1 << n; state++) {
            sum += weightOf(word(n, state), x, y, known);
        }
        return sum;
    }

    private static long sumOver(long[] weights, int set) {
        long sum = 0;
        for (int state = 0; state < weights.length; state++) {
            if ((state & set) == set) {
                sum += weights[state];
            }
        }
        return sum;
    }

    private static int extremeOf(long[] weights, int sign) {
        int best = 0;
        for (int state = 0; state < weights.length; state++) {
            if (sign * weights[state] > sign * weights[best]) {
                best = state;
            }
        }
        return best;
    }

    /** Lets everything that may happen in each state happen once: [0] into, [1] out of. */
    private static long[][] flowsOf(int n, int x, int y, long[] weights) {
        long[][] flows = new long[2][weights.length];
        for (int from = 0; from < weights.length; from++) {
            String word = word(n, from);
            if (word.charAt(0) == 'E') {
                happens(flows, from, from + 1, weights[from] * y);
            }
            if (word.charAt(n - 1) == 'D') {
                happens(flows, from, from - (1 << n - 1), weights[from] * x);
            }
            for (int place = 0; place + 1 < n; place++) {
                if (word.startsWith("DE", place)) {
                    happens(flows, from, from + (1 << place), weights[from] * x * y);
                }
            }
        }
        return flows;
    }

    private static void happens(long[][] flows, int from, int to, long amount) {
        flows[0][to] += amount;
        flows[1][from] += amount;
    }

    private static void fraction(String name, long above, long below, long gotAbove, long gotBelow) {
        long divisor = BigInteger.valueOf(above).gcd(BigInteger.valueOf(below)).longValueExact();
        CHECK.due(name + " above", above / divisor, gotAbove);
        CHECK.due(name + " below", below / divisor, gotBelow);
    }
}
