/** Promises 19 to 27: how FAR, what ADDS, CHEAPEST, MOVES and what they GAIN, LATE, DUE. */
public final class CouldTest {
    private static final int NONE = -1, BAD = -2, STATE = -3, NIL = -5, MAY_NOT = -100000;

    private CouldTest() {
    }

    public static void main(String[] args) {
        promise19Far();
        promise20Adds();
        promise21Cheapest();
        promise21CheapestOfLike();
        promise21Regret();
        promise22Best();
        promise22BestOfLikeKinds();
        promise22BestOfLikeShifts();
        promise22BestSwap();
        promise23Turn();
        promise24Shift();
        promise24ShiftByFixed();
        promise25Swap();
        promise25SwapByTime();
        promise25SwapByRoom();
        promise26Late();
        promise26LateOfNone();
        promise27Due();
        Check.end("CouldTest");
    }

    private static void promise19Far() {
        WindowRounds w = new WindowRounds();
        int[][] due = {{7, 4, 11}, {126, 63, 189}, {0, 0, 0}, {63, 63, 126}};
        for (int metric = 0; metric < 3; metric++) {
            w.price(0, metric);
            Check.due("3 and 4", w.far(10, 20, 13, 16), due[0][metric]);
            Check.due("4 and 3", w.far(14, 17, 10, 20), due[0][metric]);
            Check.due("corners", w.far(0, 0, 63, 63), due[1][metric]);
            Check.due("corners", w.far(63, 0, 0, 63), due[1][metric]);
            Check.due("none", w.far(5, 6, 5, 6), due[2][metric]);
            Check.due("straight", w.far(0, 9, 63, 9), due[3][metric]);
        }
        for (int bad : new int[] {-1, 64, Integer.MIN_VALUE, Integer.MAX_VALUE}) {
            Check.due("x", w.far(bad, 0, 0, 0), BAD);
            Check.due("y", w.far(0, bad, 0, 0), BAD);
            Check.due("toX", w.far(0, 0, bad, 0), BAD);
            Check.due("toY", w.far(0, 0, 0, bad), BAD);
        }
    }

    private static void promise20Adds() {
        WindowRounds w = new WindowRounds();
        Check.due("no STOP", w.adds(0, 0, 0), NONE);
        w.stop(42, 32, 1, 0, 20, 0);
        w.stop(52, 32, 1, 0, 20, 0);
        w.price(1, 30);
        Check.due("no such ROUND", w.adds(0, 4, 0), NONE);
        Check.due("no such ROUND", w.adds(0, -1, 0), NONE);
        Check.due("no such place", w.adds(0, 0, 1), BAD);
        Check.due("no such place", w.adds(0, 0, -1), BAD);
        Check.due("with FIXED", w.adds(0, 0, 0), 50);
        Check.due("nothing is put", w.of(0, 6), NIL);
        w.put(0, 0, 0);
        Check.due("it is in a ROUND", w.adds(0, 1, 9), STATE);
        Check.due("COULD not be there", w.adds(1, 0, 0), NIL);
        Check.due("COULD be behind", w.adds(1, 0, 1), 20);
        Check.due("no place 2", w.adds(1, 0, 2), BAD);
        w.rule(0, 0, 1);
        Check.due("no ROOM", w.adds(1, 0, 1), NIL);
        w.rule(0, 0, 2);
        w.rule(0, 2, 39);
        Check.due("not HOME in time", w.adds(1, 0, 1), NIL);
        w.rule(0, 2, 40);
        Check.due("HOME in time", w.adds(1, 0, 1), 20);
    }

    private static void promise21Cheapest() {
        WindowRounds w = new WindowRounds();
        Check.due("no STOP", w.cheapest(0, 0, 0), NONE);
        w.stop(62, 32, 1, 0, 999, 0);
        w.stop(32, 52, 1, 0, 999, 0);
        w.stop(42, 32, 1, 0, 999, 0);
        w.put(0, 1, 0);
        w.put(1, 1, 1);
        Check.due("no such ROUND", w.cheapest(2, 4, 0), NONE);
        Check.due("no such ROUND", w.cheapest(2, -2, 0), NONE);
        Check.due("no such what", w.cheapest(2, -1, 4), NONE);
        Check.due("no such what", w.cheapest(2, -1, -1), NONE);
        Check.due("REGRET of all alone", w.cheapest(2, 1, 3), NONE);
        Check.due("NONE is ahead of STATE", w.cheapest(0, 4, 0), NONE);
        Check.due("it is in a ROUND", w.cheapest(0, -1, 0), STATE);
        int[] ofAll = {1, 0, 0, 20};
        for (int what = 0; what < 4; what++) {
            Check.due("of all, what " + what, w.cheapest(2, -1, what), ofAll[what]);
        }
        int[] of3 = {3, 0, 20};
        int[] of1 = {1, 0, 0};
        for (int what = 0; what < 3; what++) {
            Check.due("of 3, what " + what, w.cheapest(2, 3, what), of3[what]);
            Check.due("of 1, what " + what, w.cheapest(2, 1, what), of1[what]);
        }
        w.set(2, 3, 500);
        w.set(0, 4, 100);
        w.set(1, 4, 100);
        Check.due("only behind both", w.cheapest(2, 1, 1), 2);
        Check.due("ADDS there", w.cheapest(2, 1, 2), 20);
        w.set(2, 2, 19);
        Check.due("no ROOM in 1", w.cheapest(2, 1, 0), NIL);
        Check.due("of all", w.cheapest(2, -1, 0), 0);
        for (int r = 0; r < 4; r++) {
            w.rule(r, 0, 18);
        }
        for (int what = 0; what < 4; what++) {
            Check.due("nowhere", w.cheapest(2, -1, what), NIL);
        }
    }

    private static void promise21CheapestOfLike() {
        WindowRounds w = new WindowRounds();
        w.stop(42, 32, 1, 0, 999, 0);
        w.stop(42, 32, 1, 0, 999, 0);
        w.stop(42, 32, 1, 0, 999, 0);
        w.put(0, 2, 0);
        w.put(1, 3, 0);
        Check.due("of like ROUNDS the least", w.cheapest(2, -1, 0), 2);
        Check.due("of like places the first", w.cheapest(2, -1, 1), 0);
        Check.due("for nothing", w.cheapest(2, -1, 2), 0);
        Check.due("no REGRET", w.cheapest(2, -1, 3), 0);
        w.set(0, 4, 10);
        Check.due("the first that COULD be", w.cheapest(2, 2, 1), 0);
        w.set(2, 5, 1);
        Check.due("behind, as ahead it would be late", w.cheapest(2, 2, 1), 1);
    }

    private static void promise21Regret() {
        WindowRounds w = new WindowRounds();
        w.stop(42, 32, 1, 0, 999, 0);
        w.stop(37, 32, 1, 0, 999, 0);
        w.stop(32, 36, 9, 0, 999, 0);
        w.put(1, 3, 0);
        w.price(1, 7);
        Check.due("in ROUND 3", w.cheapest(0, -1, 0), 3);
        Check.due("10 more there", w.cheapest(0, -1, 2), 10);
        Check.due("27 elsewhere", w.cheapest(0, -1, 3), 17);
        Check.due("for 2: 8 there, 15 elsewhere", w.cheapest(2, -1, 3), 7);
        w.rule(0, 0, 0);
        w.rule(1, 0, 0);
        w.rule(2, 0, 0);
        Check.due("no second one", w.cheapest(0, -1, 3), 10000);
        w.rule(3, 0, 1);
        w.rule(1, 0, 1);
        Check.due("just ROUND 1", w.cheapest(0, -1, 0), 1);
        Check.due("no second one", w.cheapest(0, -1, 3), 10000);
        w.rule(0, 0, 20);
        Check.due("0 is as good", w.cheapest(0, -1, 0), 0);
        Check.due("no REGRET", w.cheapest(0, -1, 3), 0);
    }

    private static void best(WindowRounds w, int... due) {
        for (int what = 0; what < 5; what++) {
            Check.due("best(" + what + ")", w.best(what), due[what]);
        }
    }

    private static void promise22Best() {
        WindowRounds w = new WindowRounds();
        Check.due("no such what", w.best(5), NONE);
        Check.due("no such what", w.best(-1), NONE);
        best(w, NIL, NIL, NIL, NIL, NIL);
        w = Check.onALine();
        best(w, 1, 16, 0, 0, 1);
        Check.row(w, 0, 1, 0, 2);
        Check.due("each is counted", w.count(5), 5);
        w.lock(0, true);
        best(w, 2, 16, 1, 0, 1);
        w.lock(1, true);
        best(w, 2, 16, 2, 0, 0);
        w.lock(2, true);
        best(w, NIL, NIL, NIL, NIL, NIL);
        w.price(1, 5);
        best(w, 2, 5, 3, 0, 0);
        w.price(1, 0);
        w.lock(1, false);
        best(w, 2, 16, 1, 0, 1);
        w.set(0, 5, 1);
        w.set(1, 4, 16);
        best(w, NIL, NIL, NIL, NIL, NIL);
    }

    /** Each of the three kinds would mend it as well as another: the TURN goes first, and the SHIFT ahead of the SWAP. */
    private static void promise22BestOfLikeKinds() {
        WindowRounds w = new WindowRounds();
        w.stop(40, 32, 1, 0, 999, 0);
        w.stop(48, 32, 1, 0, 999, 0);
        w.stop(56, 32, 1, 0, 999, 0);
        w.put(2, 3, 0);
        w.put(0, 3, 1);
        w.put(1, 3, 2);
        Check.due("the SWAP", w.swap(0, 2), 16);
        Check.due("the SHIFT", w.shift(0, 3, 0), 16);
        Check.due("the TURN", w.turn(3, 0, 1), 16);
        Check.due("another TURN", w.turn(3, 1, 2), 16);
        best(w, 1, 16, 3, 0, 1);
    }

    /** Into ROUND 0 or ROUND 1 it is as good: the lesser STOP, then the lesser ROUND, then the first place. */
    private static void promise22BestOfLikeShifts() {
        WindowRounds w = new WindowRounds();
        for (int s = 0; s < 4; s++) {
            w.stop(42, 32, 1, 0, 999, 0);
            w.put(s, s, 0);
        }
        best(w, 2, 20, 0, 1, 0);
        w.lock(0, true);
        best(w, 2, 20, 1, 0, 0);
        w.rule(0, 0, 1);
        best(w, 2, 20, 1, 2, 0);
        w.lock(1, true);
        w.rule(1, 0, 1);
        best(w, 2, 20, 2, 3, 0);
    }

    private static void promise22BestSwap() {
        WindowRounds w = Check.ofTwoSides();
        best(w, 3, 116, 0, 1, NIL);
        Check.due("as good", w.swap(2, 3), 116);
        w.lock(0, true);
        best(w, 3, 116, 2, 3, NIL);
        w.lock(3, true);
        best(w, NIL, NIL, NIL, NIL, NIL);
    }

    private static void promise23Turn() {
        WindowRounds w = Check.onALine();
        Check.due("no such ROUND", w.turn(4, 0, 1), NONE);
        Check.due("no such ROUND", w.turn(-1, 0, 1), NONE);
        Check.due("i as j", w.turn(0, 1, 1), BAD);
        Check.due("i above j", w.turn(0, 1, 0), BAD);
        Check.due("i below", w.turn(0, -1, 1), BAD);
        Check.due("j above", w.turn(0, 0, 3), BAD);
        Check.due("none there", w.turn(2, 0, 1), BAD);
        Check.due("far off", w.turn(0, Integer.MIN_VALUE, Integer.MAX_VALUE), BAD);
        Check.due("0, 1", w.turn(0, 0, 1), 16);
        Check.due("1, 2", w.turn(0, 1, 2), 16);
        Check.due("all", w.turn(0, 0, 2), 0);
        Check.row(w, 0, 1, 0, 2);
        w.set(0, 5, 1);
        w.set(1, 4, 16);
        Check.due("the other way about it is late", w.turn(0, 0, 1), MAY_NOT);
        Check.due("what isn't turned isn't late", w.turn(0, 1, 2), 16);
        w.set(1, 4, 999);
        w.lock(2, true);
        Check.due("LOCKED, but not turned", w.turn(0, 0, 1), 16);
        Check.due("LOCKED at j", w.turn(0, 1, 2), MAY_NOT);
        Check.due("LOCKED in all", w.turn(0, 0, 2), MAY_NOT);
        w.lock(2, false);
        w.lock(0, true);
        Check.due("LOCKED between", w.turn(0, 0, 2), MAY_NOT);
        Check.due("LOCKED at i", w.turn(0, 1, 2), MAY_NOT);
    }

    private static void promise24Shift() {
        WindowRounds w = Check.onALine();
        w.stop(1, 1, 1, 1, 999, 1);
        Check.due("no such STOP", w.shift(5, 0, 0), NONE);
        Check.due("no such STOP", w.shift(-1, 0, 0), NONE);
        Check.due("no such ROUND", w.shift(0, 4, 0), NONE);
        Check.due("no such ROUND", w.shift(0, -1, 0), NONE);
        Check.due("NONE is ahead of STATE", w.shift(4, 4, 0), NONE);
        Check.due("in no ROUND", w.shift(4, 0, 9), STATE);
        Check.due("where it is", w.shift(0, 0, 1), BAD);
        Check.due("beyond its own row", w.shift(0, 0, 3), BAD);
        Check.due("beyond another row", w.shift(0, 1, 2), BAD);
        Check.due("below", w.shift(0, 1, -1), BAD);
        Check.due("where the only one is", w.shift(3, 1, 0), BAD);
        Check.due("behind the only one", w.shift(3, 1, 1), BAD);
        int[] due = {16, 0, 16};
        for (int k = 0; k < 3; k += 2) {
            Check.due("in its row to " + k, w.shift(0, 0, k), due[k]);
        }
        Check.due("the first one to 1", w.shift(1, 0, 1), 16);
        Check.due("the first one to 2", w.shift(1, 0, 2), 16);
        Check.due("the last one to 0", w.shift(2, 0, 0), 16);
        Check.due("the last one to 1", w.shift(2, 0, 1), 16);
        Check.due("to another row", w.shift(0, 1, 1), 0);
        Check.due("the outer one to another row", w.shift(2, 1, 0), 32 - 48);
        Check.due("to an empty row", w.shift(2, 3, 0), 32 - 48);
        Check.due("the other one here", w.shift(3, 0, 3), 0);
        Check.row(w, 0, 1, 0, 2);
        w.rule(0, 0, 3);
        Check.due("no ROOM", w.shift(3, 0, 0), MAY_NOT);
        Check.due("ROOM for its own", w.shift(2, 0, 0), 16);
        w.set(0, 4, 24);
        Check.due("0 would be late", w.shift(2, 0, 1), MAY_NOT);
        Check.due("0 isn't late", w.shift(2, 0, 0), MAY_NOT);
        w.set(0, 4, 40);
        Check.due("0 is in time", w.shift(2, 0, 0), 16);
        w.lock(2, true);
        Check.due("LOCKED", w.shift(2, 0, 0), MAY_NOT);
        Check.due("BAD is ahead of LOCKED", w.shift(2, 0, 2), BAD);
        Check.due("another one past it", w.shift(0, 0, 2), 16);
    }

    private static void promise24ShiftByFixed() {
        WindowRounds w = new WindowRounds();
        w.stop(42, 32, 1, 0, 999, 0);
        w.stop(42, 32, 1, 0, 999, 0);
        w.stop(42, 32, 1, 0, 999, 0);
        w.put(0, 0, 0);
        w.put(1, 1, 0);
        w.put(2, 1, 1);
        w.price(1, 40);
        Check.due("its ROUND is empty then", w.shift(0, 1, 0), 60);
        Check.due("one more ROUND", w.shift(1, 2, 0), -60);
        Check.due("one for another", w.shift(0, 2, 0), 0);
        Check.due("neither", w.shift(1, 0, 0), 0);
    }

    private static void promise25Swap() {
        WindowRounds w = Check.onALine();
        w.stop(1, 1, 1, 1, 999, 1);
        Check.due("the same", w.swap(0, 0), NONE);
        Check.due("no such STOP", w.swap(0, 5), NONE);
        Check.due("no such STOP", w.swap(5, 0), NONE);
        Check.due("no such STOP", w.swap(-1, 0), NONE);
        Check.due("no such STOP", w.swap(0, -1), NONE);
        Check.due("the same, in no ROUND", w.swap(4, 4), NONE);
        Check.due("one in no ROUND", w.swap(0, 4), STATE);
        Check.due("one in no ROUND", w.swap(4, 0), STATE);
        Check.due("beside", w.swap(0, 1), 16);
        Check.due("beside", w.swap(1, 0), 16);
        Check.due("beside", w.swap(2, 0), 16);
        Check.due("beside", w.swap(0, 2), 16);
        Check.due("with one between", w.swap(1, 2), 0);
        Check.due("of two ROUNDS", w.swap(0, 3), -32);
        Check.due("of two ROUNDS", w.swap(3, 2), 96 - (64 + 48));
        Check.row(w, 0, 1, 0, 2);
        w.set(3, 4, 16);
        w.lock(1, true);
        Check.due("LOCKED", w.swap(0, 1), MAY_NOT);
        Check.due("LOCKED", w.swap(1, 0), MAY_NOT);
        w.lock(1, false);
        Check.due("3 would be late", w.swap(0, 3), MAY_NOT);
        w.set(3, 4, 40);
        Check.due("3 is in time", w.swap(0, 3), MAY_NOT);
        w.set(3, 4, 48);
        Check.due("just in time", w.swap(0, 3), -32);
    }

    private static void promise25SwapByTime() {
        WindowRounds w = Check.onALine();
        w.set(1, 4, 40);
        Check.due("1 comes behind 2 and 0", w.swap(1, 2), MAY_NOT);
        w.set(0, 5, 8);
        w.set(1, 4, 48);
        Check.due("0 stays too long", w.swap(1, 2), MAY_NOT);
        w.set(1, 4, 56);
        Check.due("just in time", w.swap(1, 2), 0);
        w.set(1, 4, 999);
        w.set(2, 3, 60);
        w.rule(0, 2, 107);
        Check.due("not HOME in time", w.swap(1, 2), MAY_NOT);
        w.rule(0, 2, 108);
        Check.due("just HOME in time", w.swap(1, 2), 0);
    }

    private static void promise25SwapByRoom() {
        WindowRounds w = new WindowRounds();
        w.stop(42, 32, 5, 0, 999, 0);
        w.stop(32, 42, 9, 0, 999, 0);
        w.put(0, 0, 0);
        w.put(1, 1, 0);
        w.rule(0, 0, 8);
        Check.due("no ROOM in the one", w.swap(0, 1), MAY_NOT);
        w.rule(0, 0, 9);
        Check.due("ROOM in both", w.swap(0, 1), 0);
        w.set(0, 2, 9);
        w.set(1, 2, 5);
        w.rule(1, 0, 8);
        Check.due("no ROOM in the other", w.swap(0, 1), MAY_NOT);
        w.rule(1, 0, 9);
        w.rule(1, 1, 985);
        w.set(0, 4, 990);
        Check.due("the other leaves too late", w.swap(1, 0), MAY_NOT);
    }

    /** 0 at 42,32 till 20, 1 at 52,32 from 100 till 110: 10, 100 (20 if not ahead of 100), back 120. */
    private static void promise26Late() {
        WindowRounds w = new WindowRounds();
        w.stop(42, 32, 1, 0, 20, 0);
        w.stop(52, 32, 1, 100, 110, 0);
        w.put(0, 1, 0);
        w.put(1, 1, 1);
        w.rule(1, 2, 125);
        Check.due("no such ROUND", w.late(4, 0), NONE);
        Check.due("no such ROUND", w.late(-1, 0), NONE);
        Check.due("NONE is ahead of BAD", w.late(4, -1), NONE);
        Check.due("d below", w.late(1, -1), BAD);
        Check.due("d above", w.late(1, 2000), BAD);
        Check.due("not at all", w.late(1, 0), NIL);
        Check.due("just in time", w.late(1, 10), NIL);
        Check.due("at the first", w.late(1, 11), 0);
        Check.due("at the first", w.late(1, 1999), 0);
        w.set(0, 4, 999);
        Check.due("in time by waiting less", w.late(1, 80), NIL);
        Check.due("in time for HOME", w.late(1, 85), NIL);
        Check.due("just HOME", w.late(1, 86), 2);
        Check.due("just HOME", w.late(1, 90), 2);
        Check.due("at the second", w.late(1, 91), 1);
        w.rule(1, 1, 20);
        Check.due("later than it leaves", w.late(1, 66), 2);
        Check.due("it leaves as it did", w.round(1, 1), 20);
    }

    private static void promise26LateOfNone() {
        WindowRounds w = new WindowRounds();
        w.rule(0, 2, 0);
        w.rule(0, 1, 999);
        Check.due("one without STOPS isn't late", w.late(0, 0), NIL);
        Check.due("whatever it is", w.late(0, 1999), NIL);
        Check.due("nor another one", w.late(1, 1999), NIL);
    }

    private static void promise27Due() {
        WindowRounds w = new WindowRounds();
        Check.due("none", w.due(0), BAD);
        w.stop(1, 1, 0, 50, 300, 0);
        w.stop(1, 1, 0, 40, 300, 0);
        w.stop(1, 1, 0, 0, 999, 0);
        w.stop(42, 32, 0, 90, 100, 0);
        w.stop(1, 1, 0, 40, 300, 0);
        w.put(3, 2, 0);
        int[] due = {3, 1, 4, 0, 2};
        for (int k = 0; k < 5; k++) {
            Check.due("due(" + k + ")", w.due(k), due[k]);
        }
        Check.due("above", w.due(5), BAD);
        Check.due("below", w.due(-1), BAD);
        Check.due("far below", w.due(Integer.MIN_VALUE), BAD);
        Check.due("far above", w.due(Integer.MAX_VALUE), BAD);
    }
}
