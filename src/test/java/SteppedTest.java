/** Promises 12 to 18: what is STEPPED, by hand and against a plain model over long runs of calls. */
public final class SteppedTest {
    private static final Check CHECK = new Check();

    public static void main(String[] args) {
        nothingStepped();
        promise12Step();
        promise13Set();
        promise14Seed();
        promise15Go();
        promise15OpenEnds();
        promise15SecondGivesWay();
        promise16TogetherOpen();
        promise16TogetherRing();
        promise16No();
        promise17At();
        promise18Told();
        for (int start = 0; start < 300; start++) {
            againstModel(start);
        }
        CHECK.end();
    }

    private static void nothingStepped() {
        OnePlaceEach none = new OnePlaceEach();
        CHECK.no("set(0, 0)", none.set(0, 0));
        CHECK.no("set(29, 2)", none.set(29, 2));
        CHECK.bad("set(30, 0)", none.set(30, 0));
        CHECK.bad("set(-1, 0)", none.set(-1, 0));
        CHECK.bad("set(0, 3)", none.set(0, 3));
        CHECK.bad("set(0, -1)", none.set(0, -1));
        CHECK.no("seed(0)", none.seed(0));
        CHECK.bad("seed(-1)", none.seed(-1));
        CHECK.no("go(10000)", none.go(10000));
        CHECK.bad("go(0)", none.go(0));
        CHECK.bad("go(10001)", none.go(10001));
        CHECK.no("together(1000)", none.together(1000));
        CHECK.bad("together(0)", none.together(0));
        CHECK.bad("together(1001)", none.together(1001));
        CHECK.no("at(29)", none.at(29));
        CHECK.bad("at(30)", none.at(30));
        CHECK.bad("at(-1)", none.at(-1));
        for (int what = 0; what <= 7; what++) {
            CHECK.no("told(" + what + ")", none.told(what));
        }
        CHECK.bad("told(8)", none.told(8));
        CHECK.bad("told(-1)", none.told(-1));
        CHECK.bad("step(1, true)", none.step(1, true));
        CHECK.no("a wrong step steps nothing", none.told(0));
    }

    private static void promise12Step() {
        OnePlaceEach row = new OnePlaceEach();
        for (int places : new int[] {1, 0, -1, 31, 32, 33, Integer.MIN_VALUE, Integer.MAX_VALUE}) {
            CHECK.bad("step(" + places + ", true)", row.step(places, true));
            CHECK.bad("step(" + places + ", false)", row.step(places, false));
        }
        CHECK.due("step(2, false)", 0, row.step(2, false));
        CHECK.due("step(30, true)", 0, row.step(30, true));
        for (int place = 0; place < 30; place++) {
            row.set(place, place % 3);
        }
        row.seed(99);
        row.go(500);
        CHECK.bad("wrong step", row.step(31, false));
        CHECK.due("places after a wrong step", 30, row.told(0));
        CHECK.due("open after a wrong step", 1, row.told(1));
        CHECK.due("step anew", 0, row.step(30, true));
        for (int what = 2; what <= 7; what++) {
            CHECK.due("told(" + what + ") anew", 0, row.told(what));
        }
        for (int place = 0; place < 30; place++) {
            CHECK.due("at(" + place + ") anew", 0, row.at(place));
        }
        CHECK.due("seed 1 anew", 2476, row.go(10000));
        CHECK.due("in, seed 1 anew", 87, row.told(2));
    }

    private static void promise13Set() {
        OnePlaceEach row = new OnePlaceEach();
        row.step(3, true);
        CHECK.due("set(2, 1)", 0, row.set(2, 1));
        CHECK.due("set(2, 2)", 1, row.set(2, 2));
        CHECK.due("set(2, 1) again", 2, row.set(2, 1));
        CHECK.due("set(2, 1) the same", 1, row.set(2, 1));
        CHECK.due("set(2, 0)", 1, row.set(2, 0));
        CHECK.due("set(2, 2) on free", 0, row.set(2, 2));
        CHECK.bad("set(3, 1)", row.set(3, 1));
        CHECK.bad("set(-1, 1)", row.set(-1, 1));
        CHECK.bad("set(32, 1)", row.set(32, 1));
        CHECK.bad("set(2, 3)", row.set(2, 3));
        CHECK.bad("set(2, -1)", row.set(2, -1));
        CHECK.due("at(2) is as it was", 2, row.at(2));
        CHECK.due("at(0) is as it was", 0, row.at(0));
        for (int what = 2; what <= 4; what++) {
            CHECK.due("set counts nothing, told(" + what + ")", 0, row.told(what));
        }
    }

    private static void promise14Seed() {
        OnePlaceEach row = new OnePlaceEach();
        row.step(2, true);
        CHECK.due("seed(0)", 0, row.seed(0));
        CHECK.due("go(30) from seed 0", 14, row.go(30));
        CHECK.due("seed(2147483647)", 0, row.seed(Integer.MAX_VALUE));
        CHECK.bad("seed(-1)", row.seed(-1));
        CHECK.bad("seed(least)", row.seed(Integer.MIN_VALUE));
        OnePlaceEach twin = new OnePlaceEach();
        twin.step(2, true);
        twin.seed(1);
        row.step(2, true);
        CHECK.due("seed 1 is that of step", twin.go(77), row.go(77));
        CHECK.due("told(4) alike", twin.told(4), row.told(4));
    }

    /** Seed 1 becomes 1103527590; by 65536, cut: 16838. */
    private static void promise15Go() {
        OnePlaceEach row = new OnePlaceEach();
        // 16838 modulo 6 is 2: places 2 and 3.
        row.step(5, true);
        row.set(2, 1);
        CHECK.due("go(1) on places 2 and 3", 1, row.go(1));
        CHECK.due("left is free", 0, row.at(2));
        CHECK.due("right is taken", 1, row.at(3));
        CHECK.due("moved", 1, row.told(4));
        row.step(5, true);
        row.set(3, 1);
        CHECK.due("nobody steps to the left", 0, row.go(1));
        for (int t : new int[] {0, -1, 10001, Integer.MIN_VALUE, Integer.MAX_VALUE}) {
            CHECK.bad("go(" + t + ")", row.go(t));
        }
        row.step(3, true);
        CHECK.due("seed goes on from call to call", hundredAtOnce(), hundredSingly(row));
    }

    private static int hundredAtOnce() {
        OnePlaceEach row = new OnePlaceEach();
        row.step(3, true);
        return row.go(100);
    }

    private static int hundredSingly(OnePlaceEach row) {
        int changes = 0;
        for (int turn = 0; turn < 100; turn++) {
            changes += row.go(1);
        }
        return changes;
    }

    private static void promise15OpenEnds() {
        OnePlaceEach row = new OnePlaceEach();
        int in = seedFor(4, 3);
        int out = seedFor(4, 4);
        for (int before = 0; before <= 2; before++) {
            row.step(4, true);
            row.set(0, before);
            row.seed(in);
            CHECK.due("in to a " + before, before == 1 ? 0 : 1, row.go(1));
            CHECK.due("place 0 then", 1, row.at(0));
            CHECK.due("IN then", before == 1 ? 0 : 1, row.told(2));
            CHECK.due("OUT then", before == 2 ? 1 : 0, row.told(3));
            CHECK.due("MOVED then", 0, row.told(4));
            row.step(4, true);
            row.set(3, before);
            row.seed(out);
            CHECK.due("out of a " + before, before == 1 ? 1 : 0, row.go(1));
            CHECK.due("last place then", before == 1 ? 0 : before, row.at(3));
            CHECK.due("OUT of a " + before, before == 1 ? 1 : 0, row.told(3));
            CHECK.due("IN of a " + before, 0, row.told(2));
            row.step(4, false);
            row.set(3, before);
            row.seed(out);
            CHECK.due("nothing in a ring", 0, row.go(1));
            CHECK.due("last place of a ring", before, row.at(3));
        }
    }

    private static void promise15SecondGivesWay() {
        OnePlaceEach row = new OnePlaceEach();
        for (int left = 0; left <= 2; left++) {
            for (int right = 0; right <= 2; right++) {
                boolean change = left == 1 && right != 1 || left == 2 && right == 0;
                row.step(4, false);
                pair(row, 1, 2, left, right, seedFor(4, 1), change);
                row.step(4, false);
                pair(row, 3, 0, left, right, seedFor(4, 3), change);
                row.step(4, true);
                pair(row, 1, 2, left, right, seedFor(4, 1), change);
            }
        }
    }

    private static void pair(OnePlaceEach row, int from, int to, int left, int right, int seed, boolean change) {
        String name = left + " at " + from + ", " + right + " at " + to + ": ";
        row.set(from, left);
        row.set(to, right);
        row.seed(seed);
        CHECK.due(name + "go(1)", change ? 1 : 0, row.go(1));
        CHECK.due(name + "left then", change ? right : left, row.at(from));
        CHECK.due(name + "right then", change ? left : right, row.at(to));
        CHECK.due(name + "MOVED", change ? 1 : 0, row.told(4));
        CHECK.due(name + "IN", 0, row.told(2));
        CHECK.due(name + "OUT", 0, row.told(3));
    }

    /** A seed whose next v in a row of so many places is the wanted one. */
    private static int seedFor(int places, int wanted) {
        int seed = 0;
        while (nextSeed(seed) / 65536 % (places + 1) != wanted) {
            seed++;
        }
        return seed;
    }

    private static long nextSeed(long seed) {
        return (seed * 1103515245L + 12345L) % 2147483648L;
    }

    private static void promise16TogetherOpen() {
        OnePlaceEach row = new OnePlaceEach();
        row.step(5, true);
        row.set(0, 1);
        row.set(1, 1);
        row.set(4, 1);
        CHECK.due("one steps", 1, row.together(1));
        places(row, 1, 0, 1, 0, 0);
        CHECK.due("IN", 0, row.told(2));
        CHECK.due("OUT", 1, row.told(3));
        CHECK.due("two step", 2, row.together(1));
        places(row, 0, 1, 0, 1, 0);
        CHECK.due("two step, one comes", 2, row.together(1));
        places(row, 1, 0, 1, 0, 1);
        CHECK.due("IN", 1, row.told(2));
        row.step(30, true);
        CHECK.due("one comes, none steps", 0, row.together(1));
        CHECK.due("it steps", 1, row.together(1));
        for (int t : new int[] {0, -1, 1001, Integer.MIN_VALUE, Integer.MAX_VALUE}) {
            CHECK.bad("together(" + t + ")", row.together(t));
        }
        row.step(2, true);
        row.set(0, 1);
        row.set(1, 1);
        CHECK.due("a place that is left just now is not free yet", 0, row.together(1));
        places(row, 1, 0);
    }

    private static void promise16TogetherRing() {
        OnePlaceEach row = new OnePlaceEach();
        row.step(4, false);
        row.set(0, 1);
        row.set(3, 1);
        CHECK.due("one steps", 1, row.together(1));
        places(row, 0, 1, 0, 1);
        CHECK.due("two step, one around", 2, row.together(1));
        places(row, 1, 0, 1, 0);
        CHECK.due("no IN", 0, row.told(2));
        CHECK.due("no OUT", 0, row.told(3));
        row.step(30, false);
        row.set(29, 1);
        CHECK.due("around from the last of 30", 1, row.together(1));
        CHECK.due("at 0", 1, row.at(0));
        CHECK.due("one mover", 1, row.told(5));
        CHECK.due("thirty turns", 30, row.together(30));
        CHECK.due("at 0 again", 1, row.at(0));
        row.step(2, false);
        row.set(0, 1);
        row.set(1, 1);
        CHECK.due("a full ring stands", 0, row.together(1000));
    }

    private static void promise16No() {
        OnePlaceEach row = new OnePlaceEach();
        row.step(4, true);
        row.set(0, 1);
        row.set(3, 2);
        CHECK.no("together with a 2", row.together(1));
        CHECK.bad("BAD is first", row.together(0));
        places(row, 1, 0, 0, 2);
        CHECK.due("no IN", 0, row.told(2));
        row.set(3, 0);
        CHECK.due("together without it", 1, row.together(1));
    }

    private static void promise17At() {
        OnePlaceEach row = new OnePlaceEach();
        row.step(30, false);
        row.set(0, 2);
        row.set(29, 1);
        CHECK.due("at(0)", 2, row.at(0));
        CHECK.due("at(1)", 0, row.at(1));
        CHECK.due("at(29)", 1, row.at(29));
        for (int place : new int[] {-1, 30, 31, 32, 61, Integer.MIN_VALUE, Integer.MAX_VALUE}) {
            CHECK.bad("at(" + place + ")", row.at(place));
        }
        row.step(2, false);
        CHECK.bad("at(2) of two", row.at(2));
    }

    private static void promise18Told() {
        OnePlaceEach row = new OnePlaceEach();
        row.step(6, false);
        int[] sorts = {0, 1, 2, 1, 0, 1};
        for (int place = 0; place < sorts.length; place++) {
            row.set(place, sorts[place]);
        }
        CHECK.due("PLACES", 6, row.told(0));
        CHECK.due("CLOSED", 0, row.told(1));
        CHECK.due("movers of sort 1", 3, row.told(5));
        CHECK.due("movers of sort 2", 1, row.told(6));
        CHECK.due("1 s with a 0 just behind, around too", 2, row.told(7));
        row.step(6, true);
        row.set(5, 1);
        CHECK.due("OPEN", 1, row.told(1));
        CHECK.due("behind the last place of an open row is none", 0, row.told(7));
        for (int what : new int[] {-1, 8, 9, Integer.MIN_VALUE, Integer.MAX_VALUE}) {
            CHECK.bad("told(" + what + ")", row.told(what));
        }
    }

    private static void places(OnePlaceEach row, int... sorts) {
        for (int place = 0; place < sorts.length; place++) {
            CHECK.due("at(" + place + ")", sorts[place], row.at(place));
        }
    }

    /** Fewer than 512 calls, right and wrong ones, on one object and on the model. */
    private static void againstModel(int start) {
        OnePlaceEach row = new OnePlaceEach();
        Model model = new Model();
        Picker picker = new Picker(start);
        for (int call = 0; call < 50; call++) {
            int kind = picker.below(12);
            int first = picker.edgy();
            int second = picker.below(5) - 1;
            String name = "start " + start + ", call " + call + ", kind " + kind + ", " + first + ", " + second;
            CHECK.due(name, model.call(kind, first, second), calledOn(row, kind, first, second));
            for (int what = 0; what <= 7; what++) {
                CHECK.due(name + ": told(" + what + ")", model.told(what), row.told(what));
            }
        }
        for (int place = 0; place < 30; place++) {
            CHECK.due("start " + start + ": at(" + place + ")", model.at(place), row.at(place));
        }
    }

    private static int calledOn(OnePlaceEach row, int kind, int first, int second) {
        switch (kind) {
            case 0:
                return row.step(first, second % 2 == 0);
            case 1:
                return row.seed(first * 1000003);
            case 2:
            case 3:
                return row.go(first);
            case 4:
            case 5:
                return row.together(first);
            default:
                return row.set(first, second);
        }
    }

    private static final class Picker {
        private long state;

        Picker(int start) {
            state = start * 7919L + 17;
        }

        int below(int bound) {
            state = state * 6364136223846793005L + 1442695040888963407L;
            return (int) ((state >>> 33) % bound);
        }

        int edgy() {
            int[] edges = {-1, 0, 1, 2, 30, 31, 1000, 1001, 10000, 10001, Integer.MIN_VALUE, Integer.MAX_VALUE};
            return below(10) == 0 ? edges[below(edges.length)] : below(31);
        }
    }

    /** The document's words over a plain row of sorts. */
    private static final class Model {
        private int[] sorts = null;
        private boolean open;
        private long seed;
        private int in;
        private int out;
        private int moved;

        int call(int kind, int first, int second) {
            switch (kind) {
                case 0:
                    return step(first, second % 2 == 0);
                case 1:
                    return seed(first * 1000003);
                case 2:
                case 3:
                    return go(first);
                case 4:
                case 5:
                    return together(first);
                default:
                    return set(first, second);
            }
        }

        int step(int places, boolean isOpen) {
            if (places < 2 || places > 30) {
                return -1;
            }
            sorts = new int[places];
            open = isOpen;
            seed = 1;
            in = 0;
            out = 0;
            moved = 0;
            return 0;
        }

        int set(int place, int sort) {
            int before = at(place);
            if (before == -1 || sort < 0 || sort > 2) {
                return -1;
            }
            if (before >= 0) {
                sorts[place] = sort;
            }
            return before;
        }

        int at(int place) {
            int most = sorts == null ? 30 : sorts.length;
            if (place < 0 || place >= most) {
                return -1;
            }
            return sorts == null ? -2 : sorts[place];
        }

        int seed(int v) {
            if (v < 0) {
                return -1;
            }
            if (sorts == null) {
                return -2;
            }
            seed = v;
            return 0;
        }

        int go(int t) {
            if (t < 1 || t > 10000) {
                return -1;
            }
            if (sorts == null) {
                return -2;
            }
            int changes = 0;
            for (int time = 0; time < t; time++) {
                int[] before = sorts.clone();
                single();
                changes += java.util.Arrays.equals(before, sorts) ? 0 : 1;
            }
            return changes;
        }

        private void single() {
            seed = nextSeed(seed);
            int v = (int) (seed / 65536 % (sorts.length + 1));
            int last = sorts.length - 1;
            if (v < last) {
                change(v, v + 1);
            } else if (v == last && !open) {
                change(last, 0);
            } else if (v == last && sorts[0] != 1) {
                out += sorts[0] == 2 ? 1 : 0;
                in++;
                sorts[0] = 1;
            } else if (v > last && open && sorts[last] == 1) {
                sorts[last] = 0;
                out++;
            }
        }

        private void change(int left, int right) {
            int pair = 10 * sorts[left] + sorts[right];
            if (pair == 10 || pair == 12 || pair == 20) {
                int kept = sorts[left];
                sorts[left] = sorts[right];
                sorts[right] = kept;
                moved++;
            }
        }

        int together(int t) {
            if (t < 1 || t > 1000) {
                return -1;
            }
            if (sorts == null || count(2) > 0) {
                return -2;
            }
            int before = moved;
            for (int time = 0; time < t; time++) {
                allAtOnce();
            }
            return moved - before;
        }

        private void allAtOnce() {
            int[] old = sorts.clone();
            int last = old.length - 1;
            for (int place = 0; place <= last; place++) {
                if (place == last && open) {
                    if (old[last] == 1) {
                        sorts[last] = 0;
                        out++;
                    }
                } else if (old[place] == 1 && old[(place + 1) % old.length] == 0) {
                    sorts[place] = 0;
                    sorts[(place + 1) % old.length] = 1;
                    moved++;
                }
            }
            if (open && old[0] == 0) {
                sorts[0] = 1;
                in++;
            }
        }

        int told(int what) {
            if (sorts == null) {
                return -2;
            }
            int[] answers = {sorts.length, open ? 1 : 0, in, out, moved, count(1), count(2), ready()};
            return answers[what];
        }

        private int count(int sort) {
            int count = 0;
            for (int each : sorts) {
                count += each == sort ? 1 : 0;
            }
            return count;
        }

        private int ready() {
            int count = 0;
            for (int place = 0; place < sorts.length - (open ? 1 : 0); place++) {
                count += sorts[place] == 1 && sorts[(place + 1) % sorts.length] == 0 ? 1 : 0;
            }
            return count;
        }
    }
}
