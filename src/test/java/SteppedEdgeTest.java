/** The edges that promises 12 to 18 name: what is STEPPED, empty and full, its ends, its SEED, and calls that are refused. */
public final class SteppedEdgeTest {
    private static final int LEAST = Integer.MIN_VALUE;
    private static final int GREATEST = Integer.MAX_VALUE;
    private static final boolean OPEN = true;
    private static final boolean CLOSED = false;
    private static final Check CHECK = new Check();

    public static void main(String[] args) {
        promise12TwoToThirtyPlaces();
        promise12AnewEmpty();
        promise12AnewSeedOne();
        promise12AnewNothingCounted();
        promise12AnewShorterAndLonger();
        promise12AnewOpenOrClosed();
        promise12RefusedChangesNothing();
        promise13FirstAndLastPlace();
        promise13SortsZeroToTwo();
        promise13WhatItHad();
        promise13FullRow();
        promise13NothingStepped();
        promise13RefusedChangesNothing();
        promise14ZeroOrAbove();
        promise14NothingStepped();
        promise14RefusedChangesNothing();
        promise14LowestThirtyOneBits();
        promise14SeedGoesOn();
        promise15OneToTenThousand();
        promise15NothingStepped();
        promise15RefusedChangesNothing();
        promise15EmptyRows();
        promise15FullRows();
        promise15FirstAndLastPair();
        promise15InAtPlaceZero();
        promise15AroundTheEnd();
        promise15OutAtTheLastPlace();
        promise15NothingAtTheLastNumber();
        promise15WhoGivesWay();
        promise16OneToThousand();
        promise16NothingStepped();
        promise16SortTwo();
        promise16RefusedChangesNothing();
        promise16EmptyRows();
        promise16FullRows();
        promise16AroundTheEnd();
        promise16InAndOutAtOnce();
        promise16PlacesFreeAheadOfItAll();
        promise16LeavesSeed();
        promise17FirstAndLastPlace();
        promise17NothingStepped();
        promise17RefusedChangesNothing();
        promise18NoneToSeven();
        promise18NothingStepped();
        promise18RefusedChangesNothing();
        promise18Movers();
        promise18FreeJustBehind();
        promise18MovedIsNotInOrOut();
        theLastCallOfAll();
        CHECK.end();
    }

    /** STEPPED with these sorts at places 0, 1, .. */
    private static OnePlaceEach rowOf(boolean open, int... sorts) {
        OnePlaceEach row = new OnePlaceEach();
        row.step(sorts.length, open);
        for (int place = 0; place < sorts.length; place++) {
            row.set(place, sorts[place]);
        }
        return row;
    }

    private static int[] allOf(int places, int sort) {
        int[] sorts = new int[places];
        java.util.Arrays.fill(sorts, sort);
        return sorts;
    }

    private static void sorts(String name, OnePlaceEach row, int... due) {
        CHECK.due(name + ": PLACES", due.length, row.told(0));
        for (int place = 0; place < due.length; place++) {
            CHECK.due(name + ": at(" + place + ")", due[place], row.at(place));
        }
    }

    private static void counts(String name, OnePlaceEach row, int in, int out, int moved) {
        CHECK.due(name + ": IN", in, row.told(2));
        CHECK.due(name + ": OUT", out, row.told(3));
        CHECK.due(name + ": MOVED", moved, row.told(4));
    }

    /** The document's SEED, by numbers that are long enough. */
    private static long nextSeed(long seed) {
        return (seed * 1103515245L + 12345L) % 2147483648L;
    }

    /** A seed whose next v, in a row of so many places, is the wanted one. */
    private static int seedFor(int places, int v) {
        int seed = 0;
        while (nextSeed(seed) / 65536 % (places + 1) != v) {
            seed++;
        }
        return seed;
    }

    /** One step of the row, by this v. */
    private static int goBy(OnePlaceEach row, int v) {
        row.seed(seedFor(row.told(0), v));
        return row.go(1);
    }

    private static void nothing(OnePlaceEach object) {
        object.row(4, 5, 6);
    }

    private static void openPast(OnePlaceEach object) {
        object.row(4, 5, 6);
        object.step(9, OPEN);
        object.seed(4711);
        object.go(40);
        object.set(5, 2);
        object.set(0, 1);
    }

    private static void closedPast(OnePlaceEach object) {
        object.row(3, 6, 5);
        object.step(30, CLOSED);
        for (int place = 0; place < 30; place += 3) {
            object.set(place, 1);
        }
        object.together(7);
        object.seed(GREATEST);
        object.go(13);
    }

    private static Refusal[] threePasts() {
        return new Refusal[] {
            new Refusal(CHECK, SteppedEdgeTest::nothing),
            new Refusal(CHECK, SteppedEdgeTest::openPast),
            new Refusal(CHECK, SteppedEdgeTest::closedPast)};
    }

    // ---- Promise 12: "STEPPED anew, empty, SEED 1: 0. BAD."; 2 to 30 PLACES, OPEN or CLOSED

    private static void promise12TwoToThirtyPlaces() {
        OnePlaceEach row = new OnePlaceEach();
        for (int places : new int[] {1, 31, 0, -1, -2, 32, 34, LEAST, GREATEST}) {
            CHECK.bad("step(" + places + ", OPEN)", row.step(places, OPEN));
            CHECK.bad("step(" + places + ", CLOSED)", row.step(places, CLOSED));
            CHECK.no("still nothing is STEPPED", row.told(0));
        }
        for (int places = 2; places <= 30; places++) {
            CHECK.due("step(" + places + ", OPEN)", 0, row.step(places, OPEN));
            CHECK.due("step(" + places + ", CLOSED)", 0, row.step(places, CLOSED));
            CHECK.due("PLACES", places, row.told(0));
        }
    }

    private static void promise12AnewEmpty() {
        for (int sort = 1; sort <= 2; sort++) {
            OnePlaceEach row = rowOf(OPEN, allOf(30, sort));
            row.step(30, OPEN);
            sorts("anew", row, allOf(30, 0));
            CHECK.due("anew: movers of sort 1", 0, row.told(5));
            CHECK.due("anew: movers of sort 2", 0, row.told(6));
        }
    }

    /** SEED 1 becomes 1103527590; that by 65536, cut: 16838; modulo 31: 5 (by SEED 0: 0, by SEED 2: 9). */
    private static void promise12AnewSeedOne() {
        OnePlaceEach row = new OnePlaceEach();
        row.step(30, CLOSED);
        row.seed(77);
        row.go(9);
        row.step(30, CLOSED);
        row.set(5, 1);
        CHECK.due("places 5 and 6 change", 1, row.go(1));
        CHECK.due("anew by seed 1: at(5)", 0, row.at(5));
        CHECK.due("anew by seed 1: at(6)", 1, row.at(6));
    }

    private static void promise12AnewNothingCounted() {
        OnePlaceEach row = new OnePlaceEach();
        row.step(2, OPEN);
        row.go(1000);
        row.together(10);
        CHECK.due("something was counted", 1, row.told(2) > 0 && row.told(3) > 0 && row.told(4) > 0 ? 1 : 0);
        row.step(2, OPEN);
        counts("anew", row, 0, 0, 0);
        CHECK.due("anew: 1 s with a 0 just behind", 0, row.told(7));
    }

    private static void promise12AnewShorterAndLonger() {
        OnePlaceEach row = rowOf(OPEN, allOf(30, 2));
        row.step(2, OPEN);
        CHECK.bad("at(2) of the shorter row", row.at(2));
        CHECK.bad("set(2, 1) of the shorter row", row.set(2, 1));
        row.step(30, OPEN);
        CHECK.due("at(2) of the longer row", 0, row.at(2));
        CHECK.due("at(29) of the longer row", 0, row.at(29));
    }

    private static void promise12AnewOpenOrClosed() {
        OnePlaceEach row = new OnePlaceEach();
        row.step(3, OPEN);
        CHECK.due("OPEN", 1, row.told(1));
        row.step(3, CLOSED);
        CHECK.due("CLOSED", 0, row.told(1));
        CHECK.due("nobody comes to a ring", 0, row.go(1000));
        row.step(3, OPEN);
        CHECK.due("OPEN again", 1, row.told(1));
        CHECK.due("somebody comes", 1, row.go(1000) > 0 ? 1 : 0);
    }

    private static void promise12RefusedChangesNothing() {
        for (Refusal refusal : threePasts()) {
            refusal.bad("step(1, OPEN)", object -> object.step(1, OPEN));
            refusal.bad("step(1, CLOSED)", object -> object.step(1, CLOSED));
            refusal.bad("step(31, OPEN)", object -> object.step(31, OPEN));
            refusal.bad("step(31, CLOSED)", object -> object.step(31, CLOSED));
        }
    }

    // ---- Promise 13: "A PLACE of it has a sort (0 to 2): what it had. BAD; NO: nothing is STEPPED."

    private static void promise13FirstAndLastPlace() {
        for (int places = 2; places <= 30; places++) {
            OnePlaceEach row = new OnePlaceEach();
            row.step(places, OPEN);
            CHECK.due("set(0, 2)", 0, row.set(0, 2));
            CHECK.due("set of the last place", 0, row.set(places - 1, 1));
            CHECK.due("at(0)", 2, row.at(0));
            CHECK.due("at of the last place", 1, row.at(places - 1));
            for (int place : new int[] {-1, places, places + 1, 30, 31, 32, LEAST, GREATEST}) {
                CHECK.bad("set(" + place + ", 1)", row.set(place, 1));
            }
            CHECK.due("two are taken", 2, row.told(5) + row.told(6));
        }
    }

    private static void promise13SortsZeroToTwo() {
        OnePlaceEach row = new OnePlaceEach();
        row.step(3, CLOSED);
        for (int sort = 0; sort <= 2; sort++) {
            row.set(1, sort);
            CHECK.due("at(1)", sort, row.at(1));
        }
        for (int sort : new int[] {-1, 3, 4, LEAST, GREATEST}) {
            CHECK.bad("set(1, " + sort + ")", row.set(1, sort));
        }
        sorts("after wrong sorts", row, 0, 2, 0);
    }

    private static void promise13WhatItHad() {
        for (int before = 0; before <= 2; before++) {
            for (int after = 0; after <= 2; after++) {
                OnePlaceEach row = rowOf(OPEN, 1, before, 2);
                CHECK.due("what it had", before, row.set(1, after));
                sorts("set " + after + " on " + before, row, 1, after, 2);
                counts("set counts nothing", row, 0, 0, 0);
            }
        }
    }

    private static void promise13FullRow() {
        for (int sort = 1; sort <= 2; sort++) {
            OnePlaceEach row = rowOf(OPEN, allOf(30, sort));
            sorts("full", row, allOf(30, sort));
            CHECK.due("full: movers of that sort", 30, row.told(4 + sort));
            CHECK.due("full: movers of the other sort", 0, row.told(7 - sort));
        }
    }

    /** Of BAD and NO the first. */
    private static void promise13NothingStepped() {
        OnePlaceEach none = new OnePlaceEach();
        CHECK.no("set(0, 0)", none.set(0, 0));
        CHECK.no("set(1, 2)", none.set(1, 2));
        CHECK.bad("set(-1, 0)", none.set(-1, 0));
        CHECK.bad("set(30, 0)", none.set(30, 0));
        CHECK.bad("set(0, -1)", none.set(0, -1));
        CHECK.bad("set(0, 3)", none.set(0, 3));
        none.step(2, OPEN);
        sorts("nothing was set", none, 0, 0);
    }

    private static void promise13RefusedChangesNothing() {
        new Refusal(CHECK, SteppedEdgeTest::nothing).no("set(0, 1)", object -> object.set(0, 1));
        for (Refusal refusal : threePasts()) {
            refusal.bad("set(-1, 1)", object -> object.set(-1, 1));
            refusal.bad("set(30, 1)", object -> object.set(30, 1));
            refusal.bad("set(0, -1)", object -> object.set(0, -1));
            refusal.bad("set(0, 3)", object -> object.set(0, 3));
            refusal.bad("set(32, 3)", object -> object.set(32, 3));
        }
        new Refusal(CHECK, SteppedEdgeTest::openPast).bad("set(9, 1)", object -> object.set(9, 1));
    }

    // ---- Promise 14: "SEED (0 or above): 0. BAD; NO."

    private static void promise14ZeroOrAbove() {
        OnePlaceEach row = new OnePlaceEach();
        row.step(2, OPEN);
        for (int v : new int[] {0, 1, 65535, 65536, 1 << 30, GREATEST - 1, GREATEST}) {
            CHECK.due("seed(" + v + ")", 0, row.seed(v));
        }
        for (int v : new int[] {-1, -2, -65536, LEAST + 1, LEAST}) {
            CHECK.bad("seed(" + v + ")", row.seed(v));
        }
    }

    private static void promise14NothingStepped() {
        OnePlaceEach none = new OnePlaceEach();
        CHECK.no("seed(0)", none.seed(0));
        CHECK.no("seed(greatest)", none.seed(GREATEST));
        CHECK.bad("seed(-1)", none.seed(-1));
        CHECK.bad("seed(least)", none.seed(LEAST));
        none.step(5, CLOSED);
        none.set(2, 1);
        CHECK.due("SEED is 1 with step all the same", 1, none.go(1));
    }

    private static void promise14RefusedChangesNothing() {
        new Refusal(CHECK, SteppedEdgeTest::nothing).no("seed(7)", object -> object.seed(7));
        for (Refusal refusal : threePasts()) {
            refusal.bad("seed(-1)", object -> object.seed(-1));
            refusal.bad("seed(least)", object -> object.seed(LEAST));
        }
    }

    /**
     * By hand: 0 becomes 12345, that by 65536: 0. 1: 1103527590, 16838. The greatest: 1043980748, 15929,
     * for it is as -1 times 1103515245. 2 to the 30, and 1: 29785766, 454 - the product is over 2 to the 60.
     */
    private static void promise14LowestThirtyOneBits() {
        int[] seeds = {0, 1, GREATEST, (1 << 30) + 1};
        int[] drawn = {0, 16838, 15929, 454};
        for (int which = 0; which < seeds.length; which++) {
            for (int places = 2; places <= 30; places++) {
                CHECK.due("v by seed " + seeds[which] + " of " + places, drawn[which] % (places + 1),
                        drawnV(places, seeds[which], 0));
            }
        }
    }

    private static void promise14SeedGoesOn() {
        for (int start : new int[] {0, 1, 2, 65536, 1 << 30, GREATEST}) {
            long seed = start;
            for (int ahead = 0; ahead < 40; ahead++) {
                seed = nextSeed(seed);
                CHECK.due("v number " + ahead + " from seed " + start, seed / 65536 % 31, drawnV(30, start, ahead));
            }
        }
    }

    /** Which v comes behind so many steps, found by a lone mover in a ring: it steps by the v of its place alone. */
    private static int drawnV(int places, int seed, int ahead) {
        for (int v = 0; v < places; v++) {
            OnePlaceEach row = new OnePlaceEach();
            row.step(places, CLOSED);
            row.seed(seed);
            if (ahead > 0) {
                CHECK.due("an empty ring stands", 0, row.go(ahead));
            }
            row.set(v, 1);
            if (row.go(1) == 1) {
                CHECK.due("it stepped to the next place", 1, row.at((v + 1) % places));
                return v;
            }
        }
        return places;
    }

    // ---- Promise 15: "t steps one by one (1 to 10000): how many changed something. BAD; NO."

    private static void promise15OneToTenThousand() {
        OnePlaceEach row = rowOf(CLOSED, 1, 0, 0);
        CHECK.due("go(1) changes once at most", 1, row.go(1) <= 1 ? 1 : 0);
        CHECK.due("go(10000) is right", 1, row.go(10000) > 0 ? 1 : 0);
        for (int t : new int[] {0, 10001, -1, -10000, LEAST, GREATEST}) {
            CHECK.bad("go(" + t + ")", row.go(t));
        }
        OnePlaceEach atOnce = rowOf(OPEN, 2, 1, 0, 2);
        OnePlaceEach singly = rowOf(OPEN, 2, 1, 0, 2);
        int changes = 0;
        for (int turn = 0; turn < 400; turn++) {
            changes += singly.go(25);
        }
        CHECK.due("go(10000) is 400 times go(25)", changes, atOnce.go(10000));
        CHECK.due("MOVED is alike", singly.told(4), atOnce.told(4));
    }

    private static void promise15NothingStepped() {
        OnePlaceEach none = new OnePlaceEach();
        CHECK.no("go(1)", none.go(1));
        CHECK.no("go(10000)", none.go(10000));
        CHECK.bad("go(0)", none.go(0));
        CHECK.bad("go(10001)", none.go(10001));
    }

    private static void promise15RefusedChangesNothing() {
        new Refusal(CHECK, SteppedEdgeTest::nothing).no("go(1)", object -> object.go(1));
        for (Refusal refusal : threePasts()) {
            refusal.bad("go(0)", object -> object.go(0));
            refusal.bad("go(-1)", object -> object.go(-1));
            refusal.bad("go(10001)", object -> object.go(10001));
        }
    }

    private static void promise15EmptyRows() {
        for (int places = 2; places <= 30; places++) {
            OnePlaceEach ring = rowOf(CLOSED, allOf(places, 0));
            CHECK.due("an empty ring stands", 0, ring.go(10000));
            counts("an empty ring", ring, 0, 0, 0);
            for (int v = 0; v <= places; v++) {
                OnePlaceEach row = rowOf(OPEN, allOf(places, 0));
                boolean comes = v == places - 1;
                CHECK.due("an empty row by " + v, comes ? 1 : 0, goBy(row, v));
                CHECK.due("place 0 by " + v, comes ? 1 : 0, row.at(0));
                counts("an empty row by " + v, row, comes ? 1 : 0, 0, 0);
            }
        }
    }

    private static void promise15FullRows() {
        for (int sort = 1; sort <= 2; sort++) {
            OnePlaceEach ring = rowOf(CLOSED, allOf(30, sort));
            CHECK.due("a full ring stands", 0, ring.go(10000));
            counts("a full ring", ring, 0, 0, 0);
        }
        for (int places = 2; places <= 30; places++) {
            for (int v = 0; v <= places; v++) {
                OnePlaceEach ones = rowOf(OPEN, allOf(places, 1));
                boolean goes = v == places;
                CHECK.due("full of 1 s by " + v, goes ? 1 : 0, goBy(ones, v));
                counts("full of 1 s by " + v, ones, 0, goes ? 1 : 0, 0);
                OnePlaceEach twos = rowOf(OPEN, allOf(places, 2));
                boolean comes = v == places - 1;
                CHECK.due("full of 2 s by " + v, comes ? 1 : 0, goBy(twos, v));
                counts("full of 2 s by " + v, twos, comes ? 1 : 0, comes ? 1 : 0, 0);
            }
        }
    }

    /** "v below PLACES - 1: of PLACES v and v + 1": the first pair and the last. */
    private static void promise15FirstAndLastPair() {
        for (boolean open : new boolean[] {OPEN, CLOSED}) {
            OnePlaceEach shortest = rowOf(open, 1, 0);
            CHECK.due("the only pair of two", 1, goBy(shortest, 0));
            sorts("the only pair of two", shortest, 0, 1);
            counts("the only pair of two", shortest, 0, 0, 1);
            for (int v : new int[] {0, 28}) {
                OnePlaceEach longest = rowOf(open, allOf(30, 0));
                longest.set(v, 1);
                CHECK.due("pair " + v + " of 30", 1, goBy(longest, v));
                CHECK.due("pair " + v + " of 30, left", 0, longest.at(v));
                CHECK.due("pair " + v + " of 30, right", 1, longest.at(v + 1));
                counts("pair " + v + " of 30", longest, 0, 0, 1);
            }
        }
    }

    /** "v is PLACES - 1: OPEN: if PLACE 0 is 0 or 2: it becomes 1 (IN; a 2 is gone, OUT)". */
    private static void promise15InAtPlaceZero() {
        for (int places : new int[] {2, 3, 30}) {
            for (int before = 0; before <= 2; before++) {
                OnePlaceEach row = rowOf(OPEN, allOf(places, 0));
                row.set(0, before);
                row.set(places - 1, 1);
                String name = "in to " + before + " of " + places;
                CHECK.due(name, before == 1 ? 0 : 1, goBy(row, places - 1));
                CHECK.due(name + ": at(0)", 1, row.at(0));
                CHECK.due(name + ": the last stays", 1, row.at(places - 1));
                CHECK.due(name + ": movers of sort 2", 0, row.told(6));
                counts(name, row, before == 1 ? 0 : 1, before == 2 ? 1 : 0, 0);
            }
        }
    }

    /** "CLOSED: of the last PLACE and PLACE 0, in this order, likewise". */
    private static void promise15AroundTheEnd() {
        for (int places : new int[] {2, 3, 30}) {
            for (int pair = 0; pair < 9; pair++) {
                int last = pair / 3;
                int first = pair % 3;
                boolean change = last == 1 && first != 1 || last == 2 && first == 0;
                OnePlaceEach ring = rowOf(CLOSED, allOf(places, 0));
                ring.set(places - 1, last);
                ring.set(0, first);
                String name = last + " at the last of " + places + ", " + first + " at 0";
                CHECK.due(name, change ? 1 : 0, goBy(ring, places - 1));
                CHECK.due(name + ": the last then", change ? first : last, ring.at(places - 1));
                CHECK.due(name + ": at(0) then", change ? last : first, ring.at(0));
                counts(name, ring, 0, 0, change ? 1 : 0);
            }
        }
    }

    /** "v is PLACES: OPEN: if the last PLACE is 1: it becomes 0 (OUT)". */
    private static void promise15OutAtTheLastPlace() {
        for (int places : new int[] {2, 3, 30}) {
            for (int before = 0; before <= 2; before++) {
                OnePlaceEach row = rowOf(OPEN, allOf(places, 0));
                row.set(places - 1, before);
                String name = "out of " + before + " of " + places;
                CHECK.due(name, before == 1 ? 1 : 0, goBy(row, places));
                CHECK.due(name + ": the last then", before == 1 ? 0 : before, row.at(places - 1));
                CHECK.due(name + ": at(0) then", 0, row.at(0));
                counts(name, row, 0, before == 1 ? 1 : 0, 0);
            }
        }
    }

    /** "v is PLACES: .. CLOSED: nothing"; SEED goes on all the same. */
    private static void promise15NothingAtTheLastNumber() {
        for (int places : new int[] {2, 3, 30}) {
            for (int sort = 0; sort <= 2; sort++) {
                OnePlaceEach ring = rowOf(CLOSED, allOf(places, 0));
                ring.set(places - 1, sort);
                CHECK.due("nothing by v " + places, 0, goBy(ring, places));
                CHECK.due("the last then", sort, ring.at(places - 1));
                CHECK.due("at(0) then", 0, ring.at(0));
                counts("nothing by v " + places, ring, 0, 0, 0);
            }
            int seed = seedFor(places, places);
            CHECK.due("SEED went on", nextSeed(nextSeed(seed)) / 65536 % (places + 1), drawnV(places, seed, 1));
        }
    }

    private static void promise15WhoGivesWay() {
        for (boolean open : new boolean[] {OPEN, CLOSED}) {
            for (int pair = 0; pair < 9; pair++) {
                int left = pair / 3;
                int right = pair % 3;
                boolean change = left == 1 && right != 1 || left == 2 && right == 0;
                OnePlaceEach row = rowOf(open, 0, left, right, 0);
                String name = left + " and " + right;
                CHECK.due(name, change ? 1 : 0, goBy(row, 1));
                sorts(name, row, 0, change ? right : left, change ? left : right, 0);
                counts(name, row, 0, 0, change ? 1 : 0);
            }
        }
    }

    // ---- Promise 16: "t times ALL AT ONCE (1 to 1000): how many steps, IN and OUT not. BAD; NO .."

    private static void promise16OneToThousand() {
        OnePlaceEach row = rowOf(CLOSED, 1, 0, 0);
        CHECK.due("together(1)", 1, row.together(1));
        CHECK.due("together(1000)", 1000, row.together(1000));
        sorts("1001 turns of three", row, 0, 0, 1);
        for (int t : new int[] {0, 1001, -1, -1000, 10000, LEAST, GREATEST}) {
            CHECK.bad("together(" + t + ")", row.together(t));
        }
        OnePlaceEach fullest = rowOf(CLOSED, allOf(30, 0));
        for (int place = 0; place < 30; place += 2) {
            fullest.set(place, 1);
        }
        CHECK.due("fifteen step each time", 15000, fullest.together(1000));
    }

    private static void promise16NothingStepped() {
        OnePlaceEach none = new OnePlaceEach();
        CHECK.no("together(1)", none.together(1));
        CHECK.no("together(1000)", none.together(1000));
        CHECK.bad("together(0)", none.together(0));
        CHECK.bad("together(1001)", none.together(1001));
    }

    /** "NO: .. there is a sort 2": at each place, alone and among others; not when it is gone. */
    private static void promise16SortTwo() {
        for (boolean open : new boolean[] {OPEN, CLOSED}) {
            for (int place = 0; place < 30; place++) {
                OnePlaceEach row = rowOf(open, allOf(30, place % 2));
                int before = row.set(place, 2);
                CHECK.no("a 2 at " + place, row.together(1));
                CHECK.bad("BAD is first", row.together(0));
                CHECK.bad("BAD is first", row.together(1001));
                counts("a 2 at " + place, row, 0, 0, 0);
                row.set(place, before);
                CHECK.due("the 2 is gone", 0, row.together(1));
            }
        }
        OnePlaceEach put = rowOf(OPEN, 2, 0, 0);
        CHECK.no("a 2 at place 0", put.together(1));
        goBy(put, 2);
        CHECK.due("it was put out by one who came", 1, put.together(1));
    }

    private static void promise16RefusedChangesNothing() {
        new Refusal(CHECK, SteppedEdgeTest::nothing).no("together(1)", object -> object.together(1));
        new Refusal(CHECK, SteppedEdgeTest::openPast).no("together(1), a 2", object -> object.together(1));
        new Refusal(CHECK, SteppedEdgeTest::openPast).no("together(1000), a 2", object -> object.together(1000));
        for (Refusal refusal : threePasts()) {
            refusal.bad("together(0)", object -> object.together(0));
            refusal.bad("together(-1)", object -> object.together(-1));
            refusal.bad("together(1001)", object -> object.together(1001));
        }
    }

    private static void promise16EmptyRows() {
        for (int places = 2; places <= 30; places++) {
            OnePlaceEach ring = rowOf(CLOSED, allOf(places, 0));
            CHECK.due("an empty ring stands", 0, ring.together(1000));
            counts("an empty ring", ring, 0, 0, 0);
            OnePlaceEach row = rowOf(OPEN, allOf(places, 0));
            CHECK.due("one comes, none steps", 0, row.together(1));
            CHECK.due("at(0)", 1, row.at(0));
            CHECK.due("movers of sort 1", 1, row.told(5));
            counts("one comes", row, 1, 0, 0);
        }
    }

    private static void promise16FullRows() {
        for (int places = 2; places <= 30; places++) {
            OnePlaceEach ring = rowOf(CLOSED, allOf(places, 1));
            CHECK.due("a full ring stands", 0, ring.together(1000));
            CHECK.due("a full ring is full", places, ring.told(5));
            counts("a full ring", ring, 0, 0, 0);
            OnePlaceEach row = rowOf(OPEN, allOf(places, 1));
            CHECK.due("one goes, none steps", 0, row.together(1));
            CHECK.due("the last place is free", 0, row.at(places - 1));
            CHECK.due("the others are taken", places - 1, row.told(5));
            counts("one goes", row, 0, 1, 0);
        }
    }

    /** "CLOSED: behind the last PLACE comes PLACE 0". */
    private static void promise16AroundTheEnd() {
        for (int places = 2; places <= 30; places++) {
            OnePlaceEach ring = rowOf(CLOSED, allOf(places, 0));
            ring.set(places - 1, 1);
            CHECK.due("around, of " + places, 1, ring.together(1));
            CHECK.due("at(0)", 1, ring.at(0));
            CHECK.due("the last place", 0, ring.at(places - 1));
            counts("around, of " + places, ring, 0, 0, 1);
            ring.set(places - 1, 1);
            CHECK.due("place 0 is taken: the last one stands", places == 2 ? 0 : 1, ring.together(1));
            CHECK.due("the last place", 1, ring.at(places - 1));
        }
    }

    /** "OPEN: a 1 at the last PLACE goes (OUT), and where PLACE 0 was 0 ahead of it all one comes (IN)". */
    private static void promise16InAndOutAtOnce() {
        OnePlaceEach row = rowOf(OPEN, 0, 1);
        CHECK.due("of two: in and out, no step", 0, row.together(1));
        sorts("of two: in and out", row, 1, 0);
        counts("of two: in and out", row, 1, 1, 0);
        CHECK.due("of two: a step alone", 1, row.together(1));
        sorts("of two: a step", row, 0, 1);
        counts("of two: a step", row, 1, 1, 1);
        OnePlaceEach longest = rowOf(OPEN, allOf(30, 0));
        longest.set(28, 1);
        longest.set(29, 1);
        CHECK.due("of 30: in and out, no step", 0, longest.together(1));
        counts("of 30: in and out", longest, 1, 1, 0);
        CHECK.due("of 30: at(28)", 1, longest.at(28));
        CHECK.due("of 30: at(29)", 0, longest.at(29));
    }

    /** Nobody steps to a place that is left only now, and none comes to one. */
    private static void promise16PlacesFreeAheadOfItAll() {
        OnePlaceEach row = rowOf(OPEN, 1, 1, 0, 1, 1);
        CHECK.due("one of four steps", 1, row.together(1));
        sorts("one of four steps", row, 1, 0, 1, 1, 0);
        counts("one of four steps", row, 0, 1, 1);
        OnePlaceEach leaving = rowOf(OPEN, 1, 0, 0);
        CHECK.due("place 0 is left only now", 1, leaving.together(1));
        sorts("place 0 is left only now", leaving, 0, 1, 0);
        counts("place 0 is left only now", leaving, 0, 0, 1);
        OnePlaceEach ring = rowOf(CLOSED, 1, 0, 1);
        CHECK.due("the last one of a ring waits", 1, ring.together(1));
        sorts("the last one of a ring waits", ring, 0, 1, 1);
    }

    private static void promise16LeavesSeed() {
        OnePlaceEach ring = new OnePlaceEach();
        ring.step(5, CLOSED);
        ring.together(1000);
        ring.set(2, 1);
        CHECK.due("SEED is 1 still: places 2 and 3", 1, ring.go(1));
        CHECK.due("at(3)", 1, ring.at(3));
    }

    // ---- Promise 17: "The sort of a PLACE. BAD; NO."

    private static void promise17FirstAndLastPlace() {
        for (int places = 2; places <= 30; places++) {
            OnePlaceEach row = rowOf(CLOSED, allOf(places, 0));
            row.set(0, 1);
            row.set(places - 1, 2);
            CHECK.due("at(0)", 1, row.at(0));
            CHECK.due("at of the last place", 2, row.at(places - 1));
            for (int place : new int[] {-1, places, 30, 31, 32, places + 32, LEAST, GREATEST}) {
                CHECK.bad("at(" + place + ") of " + places, row.at(place));
            }
        }
    }

    private static void promise17NothingStepped() {
        OnePlaceEach none = new OnePlaceEach();
        for (int place = 0; place <= 29; place++) {
            CHECK.no("at(" + place + ")", none.at(place));
        }
        CHECK.bad("at(-1)", none.at(-1));
        CHECK.bad("at(30)", none.at(30));
        CHECK.bad("at(least)", none.at(LEAST));
        CHECK.bad("at(greatest)", none.at(GREATEST));
    }

    private static void promise17RefusedChangesNothing() {
        new Refusal(CHECK, SteppedEdgeTest::nothing).no("at(0)", object -> object.at(0));
        for (Refusal refusal : threePasts()) {
            refusal.bad("at(-1)", object -> object.at(-1));
            refusal.bad("at(30)", object -> object.at(30));
        }
    }

    // ---- Promise 18: "Of what is STEPPED: 0 PLACES, 1 1 if OPEN, 2 IN, 3 OUT, 4 MOVED, .. BAD; NO."

    private static void promise18NoneToSeven() {
        OnePlaceEach row = rowOf(OPEN, 1, 0, 2, 1, 0, 1, 2, 2, 2);
        int[] due = {9, 1, 0, 0, 0, 3, 4, 2};
        for (int what = 0; what <= 7; what++) {
            CHECK.due("told(" + what + ")", due[what], row.told(what));
        }
        for (int what : new int[] {-1, 8, 9, LEAST, GREATEST}) {
            CHECK.bad("told(" + what + ")", row.told(what));
        }
    }

    private static void promise18NothingStepped() {
        OnePlaceEach none = new OnePlaceEach();
        for (int what = 0; what <= 7; what++) {
            CHECK.no("told(" + what + ")", none.told(what));
        }
        CHECK.bad("told(-1)", none.told(-1));
        CHECK.bad("told(8)", none.told(8));
    }

    private static void promise18RefusedChangesNothing() {
        new Refusal(CHECK, SteppedEdgeTest::nothing).no("told(0)", object -> object.told(0));
        for (Refusal refusal : threePasts()) {
            refusal.bad("told(-1)", object -> object.told(-1));
            refusal.bad("told(8)", object -> object.told(8));
        }
    }

    private static void promise18Movers() {
        for (int ones = 0; ones <= 30; ones++) {
            OnePlaceEach row = rowOf(CLOSED, allOf(30, 2));
            for (int place = 0; place < ones; place++) {
                row.set(place, 1);
            }
            CHECK.due("movers of sort 1", ones, row.told(5));
            CHECK.due("movers of sort 2", 30 - ones, row.told(6));
        }
    }

    private static void promise18FreeJustBehind() {
        CHECK.due("empty", 0, rowOf(OPEN, 0, 0).told(7));
        CHECK.due("empty ring", 0, rowOf(CLOSED, 0, 0).told(7));
        CHECK.due("full", 0, rowOf(OPEN, 1, 1).told(7));
        CHECK.due("full ring", 0, rowOf(CLOSED, 1, 1).told(7));
        CHECK.due("a 0 behind", 1, rowOf(OPEN, 1, 0).told(7));
        CHECK.due("a 2 behind", 0, rowOf(OPEN, 1, 2).told(7));
        CHECK.due("a 2 with a 0 behind", 0, rowOf(OPEN, 2, 0).told(7));
        CHECK.due("the last place of an open row", 0, rowOf(OPEN, 0, 1).told(7));
        CHECK.due("the last place of a ring", 1, rowOf(CLOSED, 0, 1).told(7));
        CHECK.due("the last place of a ring, a 2 at 0", 0, rowOf(CLOSED, 2, 1).told(7));
        CHECK.due("a 0 ahead", 0, rowOf(OPEN, 0, 1, 1).told(7));
    }

    /** "MOVED counts changes and steps (not IN, OUT)": go counts all that changed something. */
    private static void promise18MovedIsNotInOrOut() {
        OnePlaceEach row = rowOf(OPEN, 0, 0);
        CHECK.due("in", 1, goBy(row, 1));
        CHECK.due("a change", 1, goBy(row, 0));
        CHECK.due("out", 1, goBy(row, 2));
        counts("in, a change, out", row, 1, 1, 1);
        row.together(3);
        counts("and in, a step, in and out", row, 3, 2, 2);
    }

    // ---- "An object is used for at most 512 calls"

    private static void theLastCallOfAll() {
        OnePlaceEach row = new OnePlaceEach();
        row.step(30, CLOSED);
        for (int place = 0; place < 30; place += 2) {
            row.set(place, 1);
        }
        for (int call = 17; call < 512; call++) {
            row.together(1000);
        }
        CHECK.due("MOVED, by the 512th call", 495 * 15000, row.told(4));
    }
}
