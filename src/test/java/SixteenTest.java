/** As many STOPS as there may be, all of them in one ROUND: each place of it counts, to the last one. */
public final class SixteenTest {
    private static final int NONE = -1, BAD = -2, STATE = -3, FULL = -4, NIL = -5, MAY_NOT = -100000;
    private static final int STOPS = 16, ROUND = 2;

    private SixteenTest() {
    }

    public static void main(String[] args) {
        promise2NoMore();
        promise6Each();
        promise6TightEach();
        promise9RoomForAll();
        promise11EachAsTheLastOne();
        promise12Each();
        promise13AllButOne();
        promise14All();
        promise22EachGoesBack();
        promise22LockedOnesStay();
        promise23About();
        promise26Each();
        promise26JustHome();
        promise29Each();
        promise31Sixteen();
        promise32NoneComes();
        promise35LockedOnesStay();
        promise37Sixteen();
        promise38Each();
        promise40Locked();
        promise40Rows();
        Check.end("SixteenTest");
    }

    /** STOP s is at place s, s + 1 to the right of THE DEPOT, and stays 1: the ROUND comes there at 2 s + 1. */
    private static WindowRounds inARow() {
        WindowRounds w = new WindowRounds();
        for (int s = 0; s < STOPS; s++) {
            w.stop(33 + s, 32, 1, 0, 999, 1);
            w.put(s, ROUND, s);
        }
        return w;
    }

    private static int comes(int s) {
        return 2 * s + 1;
    }

    private static int[] allBut(int left) {
        int[] all = new int[STOPS - 1];
        for (int k = 0; k < all.length; k++) {
            all[k] = k < left ? k : k + 1;
        }
        return all;
    }

    private static int[] all() {
        int[] all = new int[STOPS];
        for (int k = 0; k < all.length; k++) {
            all[k] = k;
        }
        return all;
    }

    private static void promise2NoMore() {
        WindowRounds w = inARow();
        Check.row(w, ROUND, all());
        Calls.due(w, FULL, "stop", 1, 1, 1, 1, 1, 1);
        Calls.due(w, 15, "of", 15, 7);
        Calls.due(w, NONE, "of", 16, 7);
        Calls.due(w, NONE, "put", 16, ROUND, 16);
        Calls.due(w, STATE, "put", 15, ROUND, 15);
        Calls.due(w, BAD, "at", ROUND, 16);
    }

    private static void promise6Each() {
        WindowRounds w = inARow();
        w.rule(ROUND, 2, 48 + 5);
        for (int s = 0; s < STOPS; s++) {
            int[] due = {ROUND, s, 0, comes(s), comes(s), 5};
            for (int what = 6; what < 12; what++) {
                Calls.due(w, due[what - 6], "of", s, what);
            }
        }
        int[] due = {20, 0, 53, 16, 16, 32, 48, 0, 0, 5};
        for (int what = 0; what < 10; what++) {
            Calls.due(w, due[what], "round", ROUND, what);
        }
    }

    /** One waits 10 and has no SLACK: those ahead of it have 10, those behind it are 10 later. */
    private static void promise6TightEach() {
        for (int tight = 0; tight < STOPS; tight++) {
            WindowRounds w = inARow();
            w.set(tight, 3, comes(tight) + 10);
            w.set(tight, 4, comes(tight) + 10);
            Calls.due(w, tight, "round", ROUND, 8);
            Calls.due(w, 10, "round", ROUND, 7);
            Calls.due(w, 10, "round", ROUND, 9);
            Calls.due(w, 10, "told", 5);
            for (int s = 0; s < STOPS; s++) {
                Calls.due(w, comes(s) + (s > tight ? 10 : 0), "of", s, 9);
                Calls.due(w, comes(s) + (s >= tight ? 10 : 0), "of", s, 10);
                Calls.due(w, s < tight ? 10 : s == tight ? 0 : 999 - comes(15) - 10, "of", s, 11);
            }
        }
    }

    private static void promise9RoomForAll() {
        WindowRounds w = inARow();
        Calls.due(w, STATE, "rule", ROUND, 0, 15);
        Calls.due(w, 20, "rule", ROUND, 0, 16);
        Calls.due(w, STATE, "rule", ROUND, 2, 47);
        Calls.due(w, 1999, "rule", ROUND, 2, 48);
        for (int s = 0; s < STOPS; s++) {
            Calls.due(w, STATE, "set", s, 2, 2);
            Calls.due(w, STATE, "set", s, 5, 2);
            Calls.due(w, STATE, "set", s, 4, comes(s) - 1);
            Calls.due(w, 999, "set", s, 4, comes(s));
        }
        Calls.due(w, STATE, "price", 0, 2);
    }

    /** The sixteenth one is put where it was, and a place further is none. */
    private static void promise11EachAsTheLastOne() {
        for (int s = 0; s < STOPS; s++) {
            WindowRounds w = inARow();
            Calls.due(w, s == 15 ? 2 : 0, "take", s);
            Check.row(w, ROUND, allBut(s));
            Calls.due(w, BAD, "put", s, ROUND, 16);
            Calls.due(w, 2 * s, "adds", s, ROUND, 0);
            Calls.due(w, s == 15 ? 2 : 0, "put", s, ROUND, s);
            Check.row(w, ROUND, all());
        }
    }

    private static void promise12Each() {
        WindowRounds w = inARow();
        for (int s = STOPS - 1; s >= 0; s--) {
            Calls.due(w, 2, "take", s);
            Calls.due(w, s, "round", ROUND, 3);
            Calls.due(w, STOPS - s, "told", 2);
        }
        Calls.due(w, 0, "told", 0);
    }

    private static void promise13AllButOne() {
        for (int s = 0; s < STOPS; s++) {
            WindowRounds w = inARow();
            w.lock(s, true);
            Calls.due(w, 15, "clear", ROUND);
            Check.row(w, ROUND, s);
            w.lock(s, false);
            Calls.due(w, 1, "clear", ROUND);
            Check.row(w, ROUND);
        }
        Calls.due(inARow(), 16, "clear", ROUND);
    }

    /** No other ROUND has ROOM, so that none has a second best one: who ADDS less goes first, and the farthest stay. */
    private static void promise14All() {
        for (int room = 14; room <= 16; room++) {
            WindowRounds w = inARow();
            w.clear(ROUND);
            for (int r = 0; r < 4; r++) {
                w.rule(r, 0, r == ROUND ? room : 0);
            }
            Calls.due(w, room, "fill");
            Calls.due(w, room, "round", ROUND, 3);
            Calls.due(w, 16 - room, "told", 2);
            for (int s = 0; s < STOPS; s++) {
                Calls.due(w, s < room ? ROUND : NIL, "of", s, 6);
            }
        }
    }

    /** THE DEPOT is where the last one is, so that 30 is the least; one stands behind all others, and goes back. */
    private static void promise22EachGoesBack() {
        for (int s = 0; s < STOPS - 1; s++) {
            WindowRounds w = inARow();
            w.depot(48, 32);
            w.take(s);
            w.put(s, ROUND, 15);
            int gain = s == 0 ? 28 : 2 * (15 - s);
            Calls.due(w, 30 + gain, "told", 0);
            Calls.due(w, gain, "best", 1);
            Calls.due(w, 1, "improve", 20);
            Calls.due(w, 30, "told", 0);
        }
    }

    private static void promise22LockedOnesStay() {
        for (int locked = 0; locked < STOPS; locked++) {
            WindowRounds w = inARow();
            w.lock(locked, true);
            for (int s = 0; s < STOPS; s++) {
                int other = s == locked ? (s + 1) % STOPS : locked;
                Calls.due(w, MAY_NOT, "swap", s, other);
                Calls.due(w, s == locked ? MAY_NOT : s < 14 ? -2 : 0, "shift", s, ROUND, s == 15 ? 14 : s + 1);
            }
            Calls.due(w, MAY_NOT, "turn", ROUND, 0, 15);
            Calls.due(w, locked == 0 ? 0 : MAY_NOT, "turn", ROUND, 1, 15);
            Calls.due(w, locked == 15 ? -28 : MAY_NOT, "turn", ROUND, 0, 14);
        }
    }

    private static void promise23About() {
        WindowRounds w = inARow();
        Calls.due(w, 0, "turn", ROUND, 0, 15);
        Calls.due(w, BAD, "turn", ROUND, 0, 16);
        Calls.due(w, BAD, "turn", ROUND, 15, 16);
        Calls.due(w, 0, "turn", ROUND, 14, 15);
        Calls.due(w, -26, "turn", ROUND, 1, 14);
        Calls.due(w, -28, "shift", 15, ROUND, 0);
        Calls.due(w, 0, "shift", 0, ROUND, 15);
        Calls.due(w, BAD, "shift", 0, ROUND, 16);
        Calls.due(w, -26, "swap", 0, 15);
    }

    /** "the first STOP of a ROUND (its place) at which it would not be in time". */
    private static void promise26Each() {
        for (int late = 0; late < STOPS; late++) {
            WindowRounds w = inARow();
            w.set(late, 4, comes(late) + 2);
            Calls.due(w, NIL, "late", ROUND, 2);
            Calls.due(w, late, "late", ROUND, 3);
            Calls.due(w, 2, "round", ROUND, 9);
            Calls.due(w, 2, "of", 0, 11);
            Calls.due(w, 0, "round", ROUND, 8);
        }
    }

    private static void promise26JustHome() {
        WindowRounds w = inARow();
        w.rule(ROUND, 2, 50);
        Calls.due(w, NIL, "late", ROUND, 2);
        Calls.due(w, 16, "late", ROUND, 3);
        Calls.due(w, 16, "late", ROUND, 999 - comes(15));
        Calls.due(w, 15, "late", ROUND, 1000 - comes(15));
        Calls.due(w, 0, "late", ROUND, 1999);
    }

    /** "at all STOPS of SEEN that are in it BEGIN as told". */
    private static void promise29Each() {
        for (int seen = 0; seen < STOPS; seen++) {
            WindowRounds w = inARow();
            w.see(seen, comes(seen) + 7);
            Calls.due(w, 1, "fits", ROUND, 0);
            Calls.due(w, 7, "fits", ROUND, 1);
            w.see(15 - seen, comes(15 - seen) + 7);
            Calls.due(w, 7, "fits", ROUND, 1);
            w.see(15, comes(15) + 8);
            Calls.due(w, NIL, "fits", ROUND, 1);
        }
    }

    private static void promise31Sixteen() {
        WindowRounds w = inARow();
        Calls.due(w, 0, "mean", 0);
        Calls.due(w, 1, "mean", 1);
        Calls.due(w, WindowRounds.NO, "odds", 0);
        w.set(15, 3, comes(15) + 5);
        Calls.due(w, 5, "mean", 0);
        Calls.due(w, 16, "mean", 1);
        w.set(0, 3, comes(0) + 4);
        Calls.due(w, 5, "mean", 0);
        w.set(15, 3, comes(15) + 6);
        Calls.due(w, 3, "mean", 0);
        Calls.due(w, 8, "mean", 1);
    }

    /** "n STOPS more (0 .. 8; as long as there is room)": there is none. */
    private static void promise32NoneComes() {
        WindowRounds w = inARow();
        for (int n = 0; n <= 8; n++) {
            Calls.due(w, 0, "drawn", n, n);
            Calls.due(w, 1, "chance", n, n, 4, 0);
            Calls.due(w, 1, "chance", n, n, 4, 1);
        }
        Calls.due(w, 9 * (1 + 4 + 4), "count", 5);
        Check.row(w, ROUND, all());
    }

    /** "STOP n is taken from its ROUND, if it is in one and not LOCKED": each of them in thought, too. */
    private static void promise35LockedOnesStay() {
        for (int s = 0; s < STOPS; s++) {
            WindowRounds w = inARow();
            w.plan(2, s);
            Calls.due(w, 1, "ends", 1);
            Calls.due(w, s == 15 ? 30 : 32, "ends", 0);
            w.lock(s, true);
            Calls.due(w, 0, "ends", 1);
            Calls.due(w, 32, "ends", 0);
        }
    }

    private static void promise37Sixteen() {
        WindowRounds w = inARow();
        w.book(ROUND, 16);
        Calls.due(w, NIL, "looked");
        w.book(ROUND, 15);
        Calls.due(w, 1, "looked");
        Calls.due(w, BAD, "book", ROUND, 17);
    }

    /** "the first that is otherwise". */
    private static void promise38Each() {
        for (int other = 0; other <= STOPS; other++) {
            WindowRounds w = inARow();
            w.tape(3, 0, STOPS);
            for (int s = 0; s < STOPS; s++) {
                w.item(3, s, s == other ? 16 : s);
            }
            Calls.due(w, other == STOPS ? NIL : other, "judge", ROUND, 3, 0);
        }
    }

    /** THE IMAGE keeps which STOPS are LOCKED, and undo() brings just that back. */
    private static void promise40Locked() {
        for (int s = 0; s < STOPS; s++) {
            WindowRounds w = inARow();
            w.lock(s, true);
            w.image();
            Calls.due(w, 1, "lock", s, false);
            w.lock((s + 1) % STOPS, true);
            Calls.due(w, 16, "undo");
            for (int t = 0; t < STOPS; t++) {
                Calls.due(w, t == s ? 1 : 0, "of", t, 8);
            }
            Calls.due(w, STATE, "take", s);
        }
    }

    private static void promise40Rows() {
        WindowRounds w = inARow();
        w.image();
        w.clear(ROUND);
        for (int s = 0; s < STOPS; s++) {
            w.set(s, 0, 63);
            w.put(s, s % 4, 0);
        }
        Calls.due(w, 16, "undo");
        Check.row(w, ROUND, all());
        for (int s = 0; s < STOPS; s++) {
            Calls.due(w, 33 + s, "of", s, 0);
            Calls.due(w, comes(s), "of", s, 9);
        }
    }
}
