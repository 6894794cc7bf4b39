/** Promises 9 to 18 at their edges: rules, prices, what HOLDS just so, what is FILLED and improved, what is told. */
public final class RoundEdgesTest {
    private static final int NONE = -1, BAD = -2, STATE = -3, FULL = -4, NIL = -5;
    private static final int LEAST = Integer.MIN_VALUE, MOST = Integer.MAX_VALUE;
    private static final int[] BEYOND_ROUNDS = {-1, 4, LEAST, MOST};
    private static final int[] TOPS = {60, 999, 1999};

    private RoundEdgesTest() {
    }

    public static void main(String[] args) {
        promise9Ranges();
        promise9Holds();
        promise9WithoutStops();
        promise10Ranges();
        promise10Holds();
        promise10FixedNeverMatters();
        promise11Refused();
        promise11Places();
        promise11Holds();
        promise11HoldsBehind();
        promise11Adds();
        promise11SixteenInOne();
        promise12Refused();
        promise12CostIsLess();
        promise12WhatStaysIsJustSo();
        promise13Refused();
        promise13HowMany();
        promise14AllOrNothing();
        promise14Regret();
        promise14GreatestOfAnyOrder();
        promise14LikeRegrets();
        promise14TillNoneCould();
        promise15Ranges();
        promise15MoreThanNothing();
        promise15HowMany();
        promise15NoneIsLeft();
        promise16Refused();
        promise16WithoutStops();
        promise16Tight();
        promise16CouldLeaveLater();
        promise17Refused();
        promise18Refused();
        promise18Told();
        Check.end("RoundEdgesTest");
    }

    /** One STOP at 42,32, LOAD 5, till 30, 3 long, in ROUND r: begins 10, back at 23. */
    private static WindowRounds ofOne(int r) {
        WindowRounds w = new WindowRounds();
        w.stop(42, 32, 5, 0, 30, 3);
        w.put(0, r, 0);
        return w;
    }

    /** "ROOM (0 .. 60 ..), .. LEAVE (0 .. 999 ..), .. HOME (0 .. 1999 ..)"; "becomes v: what it was. NONE; BAD; STATE". */
    private static void promise9Ranges() {
        int[][] was = {{18, 0, 500}, {18, 7, 1999}, {18, 0, 1999}, {18, 0, 1999}};
        for (int r = 0; r < 4; r++) {
            for (int what = 0; what < 3; what++) {
                for (int v : new int[] {0, 1, TOPS[what] - 1, TOPS[what]}) {
                    WindowRounds w = new WindowRounds();
                    Calls.due(w, new int[] {20, 0, 1999}[what], "rule", r, what, v);
                    Calls.due(w, v, "round", r, what);
                    Calls.due(w, v, "rule", r, what, v);
                }
                for (int v : new int[] {-1, TOPS[what] + 1, LEAST, MOST}) {
                    Twins.refused(Twins::busy, BAD, "rule", r, what, v);
                }
                Twins.asked(Twins::busy, was[r][what], "rule", r, what, was[r][what]);
            }
            for (int what : new int[] {-1, 3, LEAST, MOST}) {
                Twins.refused(Twins::busy, NONE, "rule", r, what, 18);
                Twins.refused(Twins::busy, NONE, "rule", r, what, -1);
            }
        }
        for (int r : BEYOND_ROUNDS) {
            for (int what = 0; what < 3; what++) {
                Twins.refused(Twins::busy, NONE, "rule", r, what, 18);
                Twins.refused(Twins::busy, NONE, "rule", r, what, 2000);
            }
        }
    }

    /** "It HOLDS, if at each STOP it BEGINS at LAST or earlier, is back at HOME or earlier, and its LOADS .. no more than ROOM". */
    private static void promise9Holds() {
        for (int round = 0; round < 4; round++) {
            int r = round;
            Twins.Making making = () -> ofOne(r);
            Calls.due(making.make(), 20, "rule", r, 0, 5);
            Twins.refused(making, STATE, "rule", r, 0, 4);
            Twins.refused(making, STATE, "rule", r, 0, 0);
            Twins.refused(making, BAD, "rule", r, 0, -1);
            Calls.due(making.make(), 0, "rule", r, 1, 20);
            Twins.refused(making, STATE, "rule", r, 1, 21);
            Twins.refused(making, STATE, "rule", r, 1, 999);
            Twins.refused(making, BAD, "rule", r, 1, 1000);
            Calls.due(making.make(), 1999, "rule", r, 2, 23);
            Twins.refused(making, STATE, "rule", r, 2, 22);
            Twins.refused(making, STATE, "rule", r, 2, 0);
            Twins.refused(making, BAD, "rule", r, 2, -1);
            Twins.Making byHome = Twins.after(making, w -> w.rule(r, 2, 40));
            Calls.due(byHome.make(), 0, "rule", r, 1, 17);
            Twins.refused(byHome, STATE, "rule", r, 1, 18);
            for (int other = 0; other < 4; other++) {
                Calls.due(making.make(), other == r ? STATE : 20, "rule", other, 0, 4);
            }
        }
    }

    /** "one without STOPS always does": no ROOM, home ahead of leaving, and so again when all are taken. */
    private static void promise9WithoutStops() {
        WindowRounds w = ofOne(2);
        for (int r = 0; r < 4; r++) {
            w.clear(r);
            Calls.due(w, 20, "rule", r, 0, 0);
            Calls.due(w, 0, "rule", r, 1, 999);
            Calls.due(w, 1999, "rule", r, 2, 0);
            Calls.due(w, 999, "round", r, 6);
            Calls.due(w, STATE, "put", 0, r, 0);
        }
        Calls.due(w, 31, "depot", 63, 32);
        Calls.due(w, 0, "price", 0, 2);
        Calls.due(w, 0, "clear", 0);
    }

    /** "THE METRIC (what 0; 0 .. 2), FIXED (1) becomes v: what it was. NONE: what; BAD; STATE", "FIXED (0 .. 99; 0 at first)". */
    private static void promise10Ranges() {
        for (int metric = 0; metric < 3; metric++) {
            WindowRounds w = new WindowRounds();
            Calls.due(w, 0, "price", 0, metric);
            Calls.due(w, metric, "price", 0, metric);
            Calls.due(w, new int[] {7, 4, 11}[metric], "far", 0, 0, 3, 4);
        }
        for (int fixed : new int[] {0, 1, 98, 99}) {
            WindowRounds w = ofOne(0);
            Calls.due(w, 0, "price", 1, fixed);
            Calls.due(w, fixed, "price", 1, fixed);
            Calls.due(w, 20 + fixed, "told", 0);
        }
        for (int v : new int[] {-1, 3, LEAST, MOST}) {
            Twins.refused(Twins::busy, BAD, "price", 0, v);
        }
        for (int v : new int[] {-1, 100, LEAST, MOST}) {
            Twins.refused(Twins::busy, BAD, "price", 1, v);
        }
        for (int what : new int[] {-1, 2, LEAST, MOST}) {
            Twins.refused(Twins::busy, NONE, "price", what, 1);
            Twins.refused(Twins::busy, NONE, "price", what, 100);
        }
        Twins.asked(Twins::busy, 1, "price", 0, 1);
        Twins.asked(Twins::busy, 3, "price", 1, 3);
    }

    /** STATE by THE METRIC: 10 off by STREETS (6 and 4), 6 by KING, 16 by BOTH; each ROUND has to HOLD. */
    private static WindowRounds slanting(int r, int last, int home) {
        WindowRounds w = new WindowRounds();
        w.stop(38, 36, 5, 0, last, 0);
        w.price(0, 1);
        w.put(0, r, 0);
        w.rule(r, 2, home);
        return w;
    }

    private static void promise10Holds() {
        for (int round = 0; round < 4; round++) {
            int r = round;
            Calls.due(slanting(r, 10, 1999), 1, "price", 0, 0);
            Twins.refused(() -> slanting(r, 9, 1999), STATE, "price", 0, 0);
            Calls.due(slanting(r, 16, 1999), 1, "price", 0, 2);
            Twins.refused(() -> slanting(r, 15, 1999), STATE, "price", 0, 2);
            Calls.due(slanting(r, 999, 20), 1, "price", 0, 0);
            Twins.refused(() -> slanting(r, 999, 19), STATE, "price", 0, 0);
            Calls.due(slanting(r, 999, 32), 1, "price", 0, 2);
            Twins.refused(() -> slanting(r, 999, 31), STATE, "price", 0, 2);
            Twins.refused(() -> slanting(r, 9, 1999), BAD, "price", 0, 3);
            Twins.refused(() -> slanting(r, 9, 1999), NONE, "price", 2, 0);
            Calls.due(slanting(r, 6, 12), 1, "price", 0, 1);
        }
    }

    private static void promise10FixedNeverMatters() {
        WindowRounds w = slanting(3, 6, 12);
        Calls.due(w, 0, "price", 1, 99);
        Calls.due(w, 99 + 12, "told", 0);
        Calls.due(w, 12, "told", 1);
        w.clear(3);
        Calls.due(w, 0, "told", 0);
    }

    /** "NONE: stop, round; STATE: it is in a ROUND; BAD: k; STATE: it doesn't HOLD then": the first that is named. */
    private static void promise11Refused() {
        refusedAtPlaces("put", STATE);
    }

    /** put() and adds() are refused alike, but where it doesn't HOLD then. */
    static void refusedAtPlaces(String name, int notHolding) {
        for (int s : new int[] {-1, 6, 16, LEAST, MOST}) {
            Twins.refused(Twins::busy, NONE, name, s, 0, 0);
            Twins.refused(Twins::busy, NONE, name, s, 4, 99);
        }
        for (int r : BEYOND_ROUNDS) {
            Twins.refused(Twins::busy, NONE, name, 5, r, 0);
            Twins.refused(Twins::busy, NONE, name, 0, r, 0);
            Twins.refused(Twins::busy, NONE, name, 5, r, 99);
        }
        for (int s = 0; s < 4; s++) {
            Twins.refused(Twins::busy, STATE, name, s, 2, 0);
            Twins.refused(Twins::busy, STATE, name, s, 2, 1);
            Twins.refused(Twins::busy, STATE, name, s, 0, -1);
        }
        int[] sizes = {3, 1, 0, 0};
        for (int r = 0; r < 4; r++) {
            for (int k : new int[] {-1, sizes[r] + 1, 16, LEAST, MOST}) {
                Twins.refused(Twins::busy, BAD, name, 5, r, k);
                Twins.refused(Twins::busy, BAD, name, 4, r, k);
            }
            for (int k = 0; k <= sizes[r]; k++) {
                Twins.refused(Twins::busy, notHolding, name, 4, r, k);
            }
        }
    }

    /** "at place k (0 .. as many as it has)". */
    private static void promise11Places() {
        for (int k = 0; k <= 3; k++) {
            WindowRounds w = new WindowRounds();
            for (int s = 0; s < 3; s++) {
                w.stop(33 + s, 32, 1, 0, 999, 0);
                Calls.due(w, 2, "put", s, 1, s);
            }
            w.stop(32, 32, 1, 0, 999, 0);
            Calls.due(w, new int[] {0, 2, 4, 0}[k], "put", 3, 1, k);
            int[] row = {0, 1, 2, 2};
            System.arraycopy(new int[] {0, 1, 2}, k, row, Math.min(k + 1, 3), k < 3 ? 3 - k : 0);
            row[k] = 3;
            Check.row(w, 1, row);
        }
    }

    private static WindowRounds loose(int last, int home, int room, int leave) {
        WindowRounds w = new WindowRounds();
        w.stop(42, 32, 5, 0, last, 3);
        w.rule(3, 0, room);
        w.rule(3, 1, leave);
        w.rule(3, 2, home);
        return w;
    }

    /** "STATE: it doesn't HOLD then": LAST, HOME, ROOM just so, and one less. */
    private static void promise11Holds() {
        Calls.due(loose(10, 23, 5, 0), 20, "put", 0, 3, 0);
        Twins.refused(() -> loose(9, 23, 5, 0), STATE, "put", 0, 3, 0);
        Twins.refused(() -> loose(10, 22, 5, 0), STATE, "put", 0, 3, 0);
        Twins.refused(() -> loose(10, 23, 4, 0), STATE, "put", 0, 3, 0);
        Twins.refused(() -> loose(10, 23, 5, 1), STATE, "put", 0, 3, 0);
        Calls.due(loose(17, 30, 5, 7), 20, "put", 0, 3, 0);
        Twins.refused(() -> loose(16, 30, 5, 7), STATE, "put", 0, 3, 0);
        Twins.refused(() -> loose(17, 29, 5, 7), STATE, "put", 0, 3, 0);
    }

    /** 1 is put ahead of 0 or behind it: 0 has to be in time, and HOME, too. */
    private static WindowRounds behind(int last, int home, int stay) {
        WindowRounds w = new WindowRounds();
        w.stop(42, 32, 5, 0, last, 3);
        w.stop(37, 32, 5, 0, 999, stay);
        w.put(0, 0, 0);
        w.rule(0, 2, home);
        return w;
    }

    private static void promise11HoldsBehind() {
        Calls.due(behind(14, 27, 4), 0, "put", 1, 0, 0);
        Twins.refused(() -> behind(13, 27, 4), STATE, "put", 1, 0, 0);
        Twins.refused(() -> behind(14, 26, 4), STATE, "put", 1, 0, 0);
        Calls.due(behind(10, 27, 4), 0, "put", 1, 0, 1);
        Twins.refused(() -> behind(10, 26, 4), STATE, "put", 1, 0, 1);
        Twins.refused(() -> behind(10, 26, 4), BAD, "put", 1, 0, 2);
    }

    /** "what it ADDS": "FIXED .. for each that has STOPS". */
    private static void promise11Adds() {
        for (int fixed : new int[] {0, 1, 99}) {
            WindowRounds w = behind(999, 1999, 0);
            w.price(1, fixed);
            Calls.due(w, 10 + fixed, "adds", 1, 1, 0);
            Calls.due(w, 0, "put", 1, 0, 1);
            Calls.due(w, 20 + fixed, "told", 0);
            w.take(1);
            Calls.due(w, 10 + fixed, "put", 1, 1, 0);
            Calls.due(w, 30 + 2 * fixed, "told", 0);
        }
    }

    /** All 16 STOPS may be in one ROUND; "ROOM (0 .. 60)" may be full with LOADS. */
    private static void promise11SixteenInOne() {
        WindowRounds w = new WindowRounds();
        w.rule(2, 0, 60);
        for (int s = 0; s < 16; s++) {
            w.stop(32, 33, s < 12 ? 5 : 0, 0, 999, 0);
            Calls.due(w, BAD, "put", s, 2, s + 1);
            Calls.due(w, s == 0 ? 2 : 0, "put", s, 2, s / 2);
        }
        Calls.due(w, 16, "round", 2, 3);
        Calls.due(w, 60, "round", 2, 4);
        Check.row(w, 2, 1, 3, 5, 7, 9, 11, 13, 15, 14, 12, 10, 8, 6, 4, 2, 0);
        Calls.due(w, 5, "set", 0, 2, 4);
        Calls.due(w, 0, "set", 15, 2, 1);
        Calls.due(w, STATE, "set", 15, 2, 2);
        Calls.due(w, 16, "clear", 2);
        Calls.due(w, 16, "told", 2);
    }

    /** "NONE; STATE: it is in none, or LOCKED". */
    private static void promise12Refused() {
        for (int s : new int[] {-1, 6, 16, LEAST, MOST}) {
            Twins.refused(Twins::busy, NONE, "take", s);
        }
        for (int s = 3; s < 6; s++) {
            Twins.refused(Twins::busy, STATE, "take", s);
        }
        Twins.refused(WindowRounds::new, NONE, "take", 0);
        WindowRounds w = Twins.full();
        Calls.due(w, STATE, "take", 15);
        Calls.due(w, NONE, "take", 16);
    }

    /** "what COST is less then": FIXED when it was the last one of its ROUND, and nothing when it lay on the way. */
    private static void promise12CostIsLess() {
        WindowRounds w = behind(999, 1999, 0);
        w.price(1, 99);
        w.put(1, 0, 1);
        Calls.due(w, 0, "take", 1);
        Check.row(w, 0, 0);
        Calls.due(w, 119, "take", 0);
        Check.row(w, 0);
        Calls.due(w, STATE, "take", 0);
        w.put(1, 0, 0);
        w.put(0, 0, 0);
        Calls.due(w, 10, "take", 0);
        Check.row(w, 0, 1);
        Calls.due(w, 0, "of", 1, 7);
    }

    /** What stays may have no SLACK at all: it HOLDS, and so the others may be taken, by take(), clear() and a PLAN. */
    private static WindowRounds ofTight() {
        WindowRounds w = new WindowRounds();
        w.stop(42, 32, 1, 0, 10, 0);
        w.stop(42, 42, 1, 0, 999, 0);
        w.put(0, 2, 0);
        w.put(1, 2, 1);
        w.rule(2, 2, 40);
        return w;
    }

    private static void promise12WhatStaysIsJustSo() {
        Calls.due(ofTight(), 20, "take", 1);
        Calls.due(ofTight(), 0, "take", 0);
        WindowRounds w = ofTight();
        w.lock(0, true);
        Calls.due(w, 1, "clear", 2);
        Check.row(w, 2, 0);
        Calls.due(w, 0, "clear", 2);
        w = ofTight();
        w.plan(2, 1);
        Calls.due(w, 20, "ends", 0);
        w.lock(1, true);
        Calls.due(w, 1, "clear", 2);
        Check.row(w, 2, 1);
        Calls.due(w, 40, "round", 2, 6);
    }

    private static void promise13Refused() {
        for (int r : BEYOND_ROUNDS) {
            Twins.refused(Twins::busy, NONE, "clear", r);
        }
        Twins.asked(Twins::busy, 0, "clear", 1);
        Twins.asked(Twins::busy, 0, "clear", 2);
        Twins.asked(Twins::busy, 0, "clear", 3);
        Twins.asked(WindowRounds::new, 0, "clear", 0);
    }

    /** "All STOPS that aren't LOCKED are taken from a ROUND: how many". */
    private static void promise13HowMany() {
        for (int locked = -1; locked < 3; locked++) {
            WindowRounds w = Check.onALine();
            int[] row = {1, 0, 2};
            if (locked >= 0) {
                w.lock(row[locked], true);
            }
            Calls.due(w, locked < 0 ? 3 : 2, "clear", 0);
            Check.row(w, 0, locked < 0 ? new int[0] : new int[] {row[locked]});
            Check.row(w, 1, 3);
            Calls.due(w, 0, "clear", 0);
            Calls.due(w, locked < 0 ? 3 : 2, "told", 2);
        }
        WindowRounds w = Check.onALine();
        w.lock(1, true);
        w.lock(0, true);
        w.lock(2, true);
        Calls.due(w, 0, "clear", 0);
        Check.row(w, 0, 1, 0, 2);
        w.lock(0, false);
        Calls.due(w, 1, "clear", 0);
        Check.row(w, 0, 1, 2);
        Calls.due(w, 1, "of", 2, 7);
    }

    /** "All is FILLED: how many STOPS were put": none, and all 16. */
    private static void promise14AllOrNothing() {
        WindowRounds w = new WindowRounds();
        Calls.due(w, 0, "fill");
        for (int s = 0; s < 16; s++) {
            w.stop(33 + s, 32, 1, 0, 999, 0);
        }
        Calls.due(w, 16, "fill");
        Calls.due(w, 32, "told", 0);
        Calls.due(w, 0, "fill");
        Calls.due(w, 3, "count", 5);
        w.clear(0);
        for (int r = 0; r < 4; r++) {
            w.rule(r, 0, 0);
        }
        Calls.due(w, 0, "fill");
        Calls.due(w, 16, "told", 2);
    }

    /**
     * "that of the greatest REGRET is put where it is CHEAPEST of all": ROUND 0 has room for one of them, and the other
     * has to go to ROUND 1, which has 2 already, 10 off on the one side. 0 is at 33, 1 on the other side at 31 and up.
     */
    private static WindowRounds byRegret(int x) {
        WindowRounds w = new WindowRounds();
        w.stop(42, 32, 1, 0, 999, 0);
        w.stop(x, 32, 1, 0, 999, 0);
        w.stop(62, 32, 1, 0, 999, 0);
        w.rule(0, 0, 1);
        w.rule(1, 0, 3);
        w.rule(2, 0, 0);
        w.rule(3, 0, 0);
        w.put(2, 1, 0);
        w.lock(2, true);
        w.stop(32, 38, 1, 0, 999, 0);
        return w;
    }

    private static void promise14Regret() {
        WindowRounds w = byRegret(22);
        Calls.due(w, 20, "cheapest", 0, -1, 3);
        Calls.due(w, 0, "cheapest", 1, -1, 3);
        Calls.due(w, 0, "cheapest", 3, -1, 3);
        Calls.due(w, 3, "fill");
        Check.row(w, 1, 1, 0, 2);
        Check.row(w, 0, 3);
        WindowRounds alone = byRegret(22);
        alone.rule(1, 0, 1);
        Calls.due(alone, 10000, "cheapest", 1, -1, 3);
        Calls.due(alone, 1, "fill");
        Check.row(alone, 0, 3);
    }

    /** ROUND 0 has room for the one of the greatest REGRET, ROUND 1 then for the one that ADDS least: whatever their numbers are. */
    private static void promise14GreatestOfAnyOrder() {
        int[][] orders = {{34, 37, 40}, {34, 40, 37}, {37, 34, 40}, {37, 40, 34}, {40, 34, 37}, {40, 37, 34}};
        for (int[] xs : orders) {
            WindowRounds w = new WindowRounds();
            w.stop(42, 32, 1, 0, 999, 0);
            w.stop(22, 32, 1, 0, 999, 0);
            w.put(0, 0, 0);
            w.put(1, 1, 0);
            for (int r = 0; r < 4; r++) {
                w.rule(r, 0, r < 2 ? 2 : 0);
            }
            for (int x : xs) {
                int s = w.stop(x, 32, 1, 0, 999, 0);
                Calls.due(w, 2 * (x - 32), "cheapest", s, -1, 3);
            }
            Calls.due(w, 2, "fill");
            for (int s = 2; s < 5; s++) {
                Check.due("the ROUND of what is at " + w.of(s, 0), w.of(s, 6), xs[s - 2] == 40 ? 0 : xs[s - 2] == 34 ? 1 : NIL);
            }
        }
    }

    /** "Of like ones that which ADDS less, then the least number". */
    private static void promise14LikeRegrets() {
        int[][] xs = {{36, 35, 35}, {35, 36, 34}, {33, 33, 33}, {35, 33, 29}};
        int[] first = {1, 2, 0, 1};
        for (int i = 0; i < xs.length; i++) {
            WindowRounds w = new WindowRounds();
            for (int x : xs[i]) {
                w.stop(x, 32, 1, 0, 999, 0);
            }
            for (int r = 0; r < 4; r++) {
                w.rule(r, 0, r == 2 ? 1 : 0);
            }
            Calls.due(w, 1, "fill");
            Check.row(w, 2, first[i]);
        }
        WindowRounds w = new WindowRounds();
        w.stop(40, 32, 1, 0, 999, 0);
        w.stop(39, 32, 1, 0, 999, 0);
        w.rule(0, 0, 1);
        w.rule(1, 0, 1);
        w.rule(2, 0, 0);
        w.rule(3, 0, 0);
        Calls.due(w, 0, "cheapest", 0, -1, 3);
        Calls.due(w, 2, "fill");
        Check.row(w, 0, 1);
        Check.row(w, 1, 0);
    }

    /** "as long as one that is in no ROUND COULD be put". */
    private static void promise14TillNoneCould() {
        for (int room = 0; room <= 6; room++) {
            WindowRounds w = new WindowRounds();
            for (int s = 0; s < 5; s++) {
                w.stop(40, 32, 1, 0, 999, 0);
            }
            for (int r = 0; r < 4; r++) {
                w.rule(r, 0, r == 1 ? room : 0);
            }
            Calls.due(w, Math.min(room, 5), "fill");
            Calls.due(w, Math.min(room, 5), "round", 1, 3);
            Calls.due(w, Math.max(5 - room, 0), "told", 2);
            Calls.due(w, 0, "fill");
        }
    }

    /** "n times (1 .. 20)". */
    private static void promise15Ranges() {
        for (int n : new int[] {-1, 0, 21, LEAST, MOST}) {
            Twins.refused(Twins::busy, BAD, "improve", n);
            Twins.refused(() -> Twins.spent(1500), BAD, "improve", n);
        }
        for (int n : new int[] {1, 2, 19, 20}) {
            WindowRounds w = Check.onALine();
            Calls.due(w, 1, "improve", n);
            Calls.due(w, n, "count", 5);
            Calls.due(w, 0, "improve", n);
            Calls.due(w, 2 * n, "count", 5);
        }
    }

    /** "that GAINS most, and more than 0": by FIXED 0 nothing is gained, by FIXED 1 just 1. */
    private static void promise15MoreThanNothing() {
        WindowRounds w = new WindowRounds();
        for (int s = 0; s < 4; s++) {
            w.stop(32, 32, 1, 0, 999, 0);
            w.put(s, s, 0);
        }
        Calls.due(w, 0, "shift", 0, 1, 0);
        Calls.due(w, NIL, "best", 0);
        Calls.due(w, 0, "improve", 20);
        w.price(1, 1);
        Calls.due(w, 1, "shift", 0, 1, 0);
        Calls.due(w, 2, "best", 0);
        Calls.due(w, 1, "best", 1);
        Calls.due(w, 3, "improve", 20);
        Calls.due(w, 1, "told", 0);
        Calls.due(w, 0, "improve", 20);
    }

    /** "THE BEST MOVE is done, n times (1 .. 20), or till there is none: how many". */
    private static void promise15HowMany() {
        for (int n = 1; n <= 20; n++) {
            WindowRounds w = scattered();
            WindowRounds one = scattered();
            int done = 0;
            for (int i = 0; i < n; i++) {
                done += one.improve(1);
            }
            Calls.due(w, done, "improve", n);
            Check.due("COST by " + n, w.told(0), one.told(0));
            Check.due("n of 21", done, n);
            Check.due("WORK by " + n, w.count(5), n);
        }
        WindowRounds w = scattered();
        Calls.due(w, 20, "improve", 20);
        Calls.due(w, 1, "improve", 20);
        Calls.due(w, 0, "improve", 20);
        Calls.due(w, 60, "count", 5);
    }

    /** 16 STOPS put without a look at where they are: 21 MOVES, as a search found, are more than once may be asked for. */
    private static WindowRounds scattered() {
        int[] xs = {16, 2, 0, 16, 17, 9, 13, 26, 62, 17, 10, 13, 8, 19, 13, 30};
        int[] ys = {10, 19, 62, 15, 52, 59, 48, 36, 3, 22, 51, 35, 6, 16, 59, 39};
        WindowRounds w = new WindowRounds();
        w.price(0, 2);
        w.price(1, 22);
        for (int s = 0; s < 16; s++) {
            w.stop(xs[s], ys[s], 1, 0, 999, 0);
            w.put(s, s % 4, s / 4);
        }
        return w;
    }

    /** "or till there is none", "as long as one .. COULD be put": what does nothing changes nothing but WORK. */
    private static void promise15NoneIsLeft() {
        Twins.Making done = Twins.after(Twins::busy, w -> {
            w.fill();
            w.improve(20);
            w.best(0);
        });
        Calls.due(done.make(), NIL, "best", 0);
        Twins.thought(done, 0, 1, "fill");
        Twins.thought(done, NIL, 1, "best", 0);
        for (int n : new int[] {1, 7, 20}) {
            Twins.thought(done, 0, n, "improve", n);
            Twins.thought(WindowRounds::new, 0, n, "improve", n);
        }
        Twins.thought(WindowRounds::new, 0, 1, "fill");
    }

    private static void promise16Refused() {
        for (int r : BEYOND_ROUNDS) {
            for (int what : new int[] {-1, 0, 9, 10}) {
                Twins.refused(Twins::busy, NONE, "round", r, what);
            }
        }
        for (int r = 0; r < 4; r++) {
            for (int what : new int[] {-1, 10, LEAST, MOST}) {
                Twins.refused(Twins::busy, NONE, "round", r, what);
            }
        }
        int[] due = {18, 7, 1999, 1, 6, 14, 30, 6, 3, 46};
        for (int what = 0; what < 10; what++) {
            Twins.asked(Twins::busy, due[what], "round", 1, what);
        }
    }

    /** "5 MILES" "(0 without STOPS)", "6 .. (LEAVE without STOPS)", "8 TIGHT (-5), 9 .. (-5: no STOPS)". */
    private static void promise16WithoutStops() {
        for (int leave : new int[] {0, 1, 998, 999}) {
            WindowRounds w = ofOne(3);
            w.clear(3);
            w.price(1, 99);
            for (int r = 0; r < 4; r++) {
                w.rule(r, 0, 7);
                w.rule(r, 1, leave);
                w.rule(r, 2, 5);
                int[] due = {7, leave, 5, 0, 0, 0, leave, 0, NIL, NIL};
                for (int what = 0; what < 10; what++) {
                    Calls.due(w, due[what], "round", r, what);
                }
            }
        }
    }

    /** "TIGHT: the STOP of a ROUND that has the least SLACK; of like ones the first". */
    private static void promise16Tight() {
        int[][] lasts = {{20, 30, 40}, {19, 30, 40}, {20, 29, 40}, {20, 30, 39}, {999, 999, 999}, {999, 30, 999}};
        int[] tight = {2, 2, 2, 2, 2, 2};
        int[] slack = {10, 9, 9, 9, 969, 10};
        for (int i = 0; i < lasts.length; i++) {
            WindowRounds w = new WindowRounds();
            w.stop(52, 32, 1, 0, lasts[i][1], 0);
            w.stop(62, 32, 1, 0, lasts[i][2], 0);
            w.stop(42, 32, 1, 0, lasts[i][0], 0);
            w.put(2, 0, 0);
            w.put(0, 0, 1);
            w.put(1, 0, 2);
            w.rule(0, 2, 1029);
            Check.due("the least SLACK, row " + i, w.of(w.round(0, 8), 11), slack[i]);
            Check.due("TIGHT, row " + i, w.round(0, 8), tight[i]);
        }
        promise16TightBehind();
    }

    /** What waits has the more SLACK ahead of it: then a later one is TIGHT, by one minute or not. */
    private static void promise16TightBehind() {
        for (int last = 59; last <= 63; last++) {
            WindowRounds w = new WindowRounds();
            w.stop(42, 32, 1, 0, 22, 0);
            w.stop(52, 32, 1, 50, last, 0);
            w.put(0, 3, 0);
            w.put(1, 3, 1);
            Calls.due(w, 12, "of", 0, 11);
            Calls.due(w, last - 50, "of", 1, 11);
            Calls.due(w, last - 50 < 12 ? 1 : 0, "round", 3, 8);
            Calls.due(w, 12, "round", 3, 9);
        }
    }

    /** "9 how much later it could LEAVE": leaving so much later HOLDS, and one more doesn't. */
    private static void promise16CouldLeaveLater() {
        for (int first = 0; first <= 30; first += 6) {
            for (int home = 40; home <= 60; home += 5) {
                WindowRounds w = new WindowRounds();
                w.stop(42, 32, 1, first, 35, 3);
                w.rule(1, 1, 4);
                w.put(0, 1, 0);
                if (w.rule(1, 2, home) == STATE) {
                    continue;
                }
                int later = w.round(1, 9);
                Calls.due(w, 4, "rule", 1, 1, 4 + later);
                Calls.due(w, 0, "round", 1, 9);
                Calls.due(w, STATE, "rule", 1, 1, 5 + later);
                Check.due("by LAST or by HOME", later, Math.min(35, home - 13) - 14);
            }
        }
        WindowRounds w = new WindowRounds();
        w.stop(32, 32, 0, 0, 999, 30);
        w.put(0, 0, 0);
        Calls.due(w, 999, "round", 0, 9);
        Calls.due(w, 0, "rule", 0, 1, 999);
        Calls.due(w, 0, "round", 0, 9);
    }

    /** "The STOP at place k of a ROUND. NONE: round; BAD: none is". */
    private static void promise17Refused() {
        int[][] rows = {{1, 0, 2}, {3}, {}, {}};
        for (int r = 0; r < 4; r++) {
            for (int k : new int[] {-1, rows[r].length, rows[r].length + 1, 15, 16, LEAST, MOST}) {
                Twins.refused(Twins::busy, BAD, "at", r, k);
            }
            for (int k = 0; k < rows[r].length; k++) {
                Twins.asked(Twins::busy, rows[r][k], "at", r, k);
            }
        }
        for (int r : BEYOND_ROUNDS) {
            Twins.refused(Twins::busy, NONE, "at", r, 0);
            Twins.refused(Twins::busy, NONE, "at", r, -1);
        }
    }

    private static void promise18Refused() {
        for (int what : new int[] {-1, 6, LEAST, MOST}) {
            Twins.refused(Twins::busy, NONE, "told", what);
        }
        int[] due = {75, 69, 2, 1, 2, 19};
        for (int what = 0; what < 6; what++) {
            Twins.asked(Twins::busy, due[what], "told", what);
        }
    }

    /** "0 COST, 1 MILES of all, 2 .. in no ROUND, 3 .. LOCKED, 4 how many ROUNDS have STOPS, 5 how long all WAIT". */
    private static void promise18Told() {
        WindowRounds w = new WindowRounds();
        w.price(1, 99);
        for (int what = 0; what < 6; what++) {
            Calls.due(w, 0, "told", what);
        }
        for (int s = 0; s < 16; s++) {
            w.stop(33, 32, 0, 11, 999, 0);
            w.put(s, s % 4, 0);
            w.lock(s, true);
            int used = Math.min(s + 1, 4);
            int[] due = {101 * used, 2 * used, 0, s + 1, used, 10 * used};
            for (int what = 0; what < 6; what++) {
                Calls.due(w, due[what], "told", what);
            }
        }
    }
}
