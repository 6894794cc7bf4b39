/** Promises 1 to 8 at their edges: each sentence's last one inside and first one outside, and that refusals change nothing. */
public final class StopEdgesTest {
    private static final int NONE = -1, BAD = -2, STATE = -3, FULL = -4, NIL = -5;
    private static final int LEAST = Integer.MIN_VALUE, MOST = Integer.MAX_VALUE;
    private static final int[] TOPS = {63, 63, 20, 999, 999, 30};

    private StopEdgesTest() {
    }

    public static void main(String[] args) {
        promise1AsAtFirst();
        promise1EachOfItsOwn();
        callsOfOneObject();
        promise2Ranges();
        promise2Window();
        promise2SixteenStops();
        promise3Signs();
        promise3HundredSigns();
        promise5Ranges();
        promise5Windows();
        promise5Holds();
        promise5HoldsByPlace();
        promise5Loose();
        promise6What();
        promise6Waits();
        promise6SlackIsTheMost();
        promise6SlackThroughWaits();
        promise7Lock();
        promise7LockedStays();
        promise8Depot();
        promise8EachRound();
        Check.end("StopEdgesTest");
    }

    /** "20 at first", "0 at first", "1999 at first", "none at first", "THE DEPOT is at 32, 32 at first". */
    private static void promise1AsAtFirst() {
        WindowRounds w = new WindowRounds();
        w.stop(32, 32, 20, 0, 0, 0);
        for (int r = 0; r < 4; r++) {
            Calls.due(w, 0, "adds", 0, r, 0);
            w.set(0, 0, 33);
            Calls.due(w, NIL, "adds", 0, r, 0);
            w.set(0, 4, 1);
            Calls.due(w, 2, "adds", 0, r, 0);
            w.set(0, 0, 32);
            w.set(0, 1, 33);
            Calls.due(w, 2, "adds", 0, r, 0);
            w.set(0, 1, 32);
            w.set(0, 4, 0);
        }
        Calls.due(w, 7, "far", 0, 0, 3, 4);
        for (int what = 1; what < 6; what++) {
            Calls.due(w, 0, "count", what);
        }
        for (int t = 0; t < 6; t++) {
            Calls.due(w, WindowRounds.NO, "peek", t, 0);
            Calls.due(w, -11, "slide", t, 0, t, 0, 0);
        }
        Twins.refused(WindowRounds::new, STATE, "undo");
        Twins.refused(WindowRounds::new, -11, "taken", 0);
        Twins.refused(WindowRounds::new, -10, "read");
    }

    /** What is done with one object is not seen by another. */
    private static void promise1EachOfItsOwn() {
        Twins.alike("what others do", Twins.after(WindowRounds::new, w -> {
            Twins.busy();
            Twins.full();
            Twins.spent(1500);
        }), WindowRounds::new);
    }

    /** "An object is used for at most 512 calls": the 512th answers as any other. */
    private static void callsOfOneObject() {
        WindowRounds w = new WindowRounds();
        for (int call = 1; call <= 15; call++) {
            w.stop(34, 32, 1, 0, 999, 0);
        }
        for (int call = 16; call <= 505; call += 2) {
            Calls.due(w, 4, "put", 0, 0, 0);
            Calls.due(w, 1, "clear", 0);
        }
        Calls.due(w, 15, "stop", 1, 2, 3, 4, 5, 6);
        Calls.due(w, FULL, "stop", 1, 2, 3, 4, 5, 6);
        Calls.due(w, 15, "fill");
        Calls.due(w, 16, "count", 0);
        Calls.due(w, 16, "image");
        Calls.due(w, 1, "tape", 5, 3, 60);
        Calls.due(w, 1, "feed", 127);
    }

    private static Object[] stopWith(int what, int v) {
        Object[] facts = {30, 31, 5, 0, 999, 10};
        facts[what] = v;
        return facts;
    }

    /** "PLACES are x, y (0 .. 63 each)", "LOAD (0 .. 20)", "minutes 0 .. 999", "STAY (0 .. 30)"; "BAD: x, y, load, ..". */
    private static void promise2Ranges() {
        for (int what = 0; what < 6; what++) {
            for (int v : new int[] {0, 1, TOPS[what] - 1, TOPS[what]}) {
                WindowRounds w = new WindowRounds();
                Calls.due(w, 0, "stop", stopWith(what, v));
                Calls.due(w, v, "of", 0, what);
            }
            for (int v : new int[] {-1, TOPS[what] + 1, LEAST, MOST}) {
                Twins.refused(Twins::busy, BAD, "stop", stopWith(what, v));
            }
        }
        Twins.refused(Twins::busy, BAD, "stop", 30, 31, 5, 1000, 1000, 10);
        Twins.refused(Twins::busy, BAD, "stop", 30, 31, 5, -1, -1, 10);
    }

    /** "FIRST no more than LAST". */
    private static void promise2Window() {
        for (int first : new int[] {0, 1, 500, 999}) {
            WindowRounds w = new WindowRounds();
            Calls.due(w, 0, "stop", 1, 2, 3, first, first, 4);
            Calls.due(w, first, "of", 0, 3);
            Calls.due(w, first, "of", 0, 4);
            Twins.refused(Twins::busy, BAD, "stop", 1, 2, 3, first, first - 1, 4);
        }
    }

    /** "STOPS 0 .. 15, as they come", "A STOP (in no ROUND): its number", "FULL: 16". */
    private static void promise2SixteenStops() {
        WindowRounds w = new WindowRounds();
        for (int s = 0; s < 16; s++) {
            Calls.due(w, NONE, "of", s, 0);
            Calls.due(w, s, "stop", s, 2 * s, s, s, 999 - s, s);
            Calls.due(w, NIL, "of", s, 6);
            Calls.due(w, s + 1, "count", 0);
        }
        for (int s = 0; s < 16; s++) {
            Object[] facts = {s, 2 * s, s, s, 999 - s, s};
            for (int what = 0; what < 6; what++) {
                Calls.due(w, (int) facts[what], "of", s, what);
            }
        }
        Twins.refused(Twins::full, FULL, "stop", 1, 2, 3, 4, 5, 6);
        Twins.refused(Twins::full, FULL, "stop", 0, 0, 0, 0, 0, 0);
        for (int what = 0; what < 6; what++) {
            Twins.refused(Twins::full, BAD, "stop", stopWith(what, -1));
            Twins.refused(Twins::full, BAD, "stop", stopWith(what, TOPS[what] + 1));
        }
        Twins.refused(Twins::full, BAD, "stop", 1, 2, 3, 5, 4, 6);
    }

    /** "A sign (0 .. 127)". */
    private static void promise3Signs() {
        for (int sign : new int[] {0, 1, 126, 127}) {
            WindowRounds w = new WindowRounds();
            Calls.due(w, 1, "feed", sign);
            Calls.due(w, 2, "feed", sign);
            Calls.due(w, 2, "count", 4);
        }
        for (int sign : new int[] {-1, 128, 256 + '1', LEAST, MOST}) {
            Twins.refused(Twins::busy, BAD, "feed", sign);
            Twins.refused(Twins::full, BAD, "feed", sign);
        }
    }

    /** "THE TEXT (bytes, 100 at most)". */
    private static void promise3HundredSigns() {
        WindowRounds w = new WindowRounds();
        Check.feed(w, Twins.FULL_TEXT);
        Calls.due(w, 100, "count", 4);
        Calls.due(w, FULL, "feed", '8');
        Calls.due(w, 100, "count", 4);
        Calls.due(w, 6, "read");
        Calls.due(w, 7, "of", 5, 5);
        Check.feed(w, Twins.FULL_TEXT);
        Calls.due(w, FULL, "feed", 0);
        for (int sign : new int[] {0, '1', 127}) {
            Twins.refused(Twins::full, FULL, "feed", sign);
        }
        WindowRounds oneLess = new WindowRounds();
        Check.feed(oneLess, Twins.FULL_TEXT.substring(0, 99));
        Calls.due(oneLess, 100, "feed", '8');
        Calls.due(oneLess, FULL, "feed", '8');
    }

    /** "Of a STOP what 0 x .. 5 STAY becomes v: what it was. NONE; BAD: v". */
    private static void promise5Ranges() {
        int[] was = {33, 33, 1, 0, 999, 1};
        for (int what = 0; what < 6; what++) {
            for (int v : new int[] {0, 1, TOPS[what] - 1, TOPS[what]}) {
                int fact = what;
                Twins.alike("set there and back", Twins.after(Twins::busy, w -> {
                    Calls.due(w, was[fact], "set", 5, fact, v);
                    Calls.due(w, v, "of", 5, fact);
                    Calls.due(w, v, "set", 5, fact, was[fact]);
                }), Twins::busy);
            }
            for (int v : new int[] {-1, TOPS[what] + 1, LEAST, MOST}) {
                Twins.refused(Twins::busy, BAD, "set", 5, what, v);
                Twins.refused(Twins::busy, BAD, "set", 0, what, v);
                Twins.refused(Twins::busy, NONE, "set", 6, what, v);
            }
            for (int s : new int[] {-1, 6, 16, LEAST, MOST}) {
                Twins.refused(Twins::busy, NONE, "set", s, what, 1);
            }
        }
        for (int what : new int[] {-1, 6, LEAST, MOST}) {
            Twins.refused(Twins::busy, NONE, "set", 0, what, 1);
            Twins.refused(Twins::busy, NONE, "set", 0, what, 1000);
        }
        Twins.refused(Twins::full, NONE, "set", 16, 0, 1);
        Calls.due(Twins.full(), 49, "set", 15, 0, 1);
    }

    /** "BAD: v (also FIRST above LAST)". */
    private static void promise5Windows() {
        Twins.Making ofWindow = Twins.after(Twins::busy, w -> w.stop(1, 1, 1, 300, 400, 1));
        WindowRounds w = ofWindow.make();
        Calls.due(w, 300, "set", 6, 3, 400);
        Calls.due(w, 400, "set", 6, 3, 300);
        Calls.due(w, 400, "set", 6, 4, 300);
        Calls.due(w, 300, "set", 6, 4, 301);
        Twins.refused(ofWindow, BAD, "set", 6, 3, 401);
        Twins.refused(ofWindow, BAD, "set", 6, 3, 999);
        Twins.refused(ofWindow, BAD, "set", 6, 4, 299);
        Twins.refused(ofWindow, BAD, "set", 6, 4, 0);
    }

    /**
     * 0 at 42,32, LOAD 5, FIRST 10, stays 3; 1 at 42,42, LOAD 15, FIRST 30, stays 2, in ROUND r: begins 10 and 30,
     * back at 52. HOME, ROOM and each LAST are just so.
     */
    private static WindowRounds justSo(int r) {
        WindowRounds w = new WindowRounds();
        w.stop(42, 32, 5, 0, 10, 3);
        w.stop(42, 42, 15, 30, 30, 2);
        w.put(0, r, 0);
        w.put(1, r, 1);
        w.rule(r, 2, 52);
        return w;
    }

    private static void border(Twins.Making making, long was, int inside, int outside, Object... of) {
        Object[] all = {of[0], of[1], inside};
        Calls.due(making.make(), was, "set", all);
        Twins.refused(making, STATE, "set", of[0], of[1], outside);
    }

    /** "what would make one not HOLD is refused (STATE)": by LAST, by the next one's LAST, by HOME, by ROOM. */
    private static void promise5Holds() {
        for (int round = 0; round < 4; round++) {
            int r = round;
            Twins.Making making = () -> justSo(r);
            border(making, 10, 10, 9, 0, 4);
            Calls.due(making.make(), 30, "set", 1, 4, 31);
            border(making, 5, 5, 6, 0, 2);
            border(making, 15, 15, 16, 1, 2);
            border(making, 3, 10, 11, 0, 5);
            border(making, 2, 2, 3, 1, 5);
            Twins.Making wider = Twins.after(making, w -> w.set(0, 4, 99));
            border(wider, 0, 17, 18, 0, 3);
            Twins.Making sooner = Twins.after(making, w -> w.set(1, 3, 0));
            border(sooner, 30, 23, 22, 1, 4);
            Twins.Making later = Twins.after(making, w -> w.set(1, 4, 99));
            border(later, 30, 30, 31, 1, 3);
        }
        Twins.refused(() -> justSo(0), BAD, "set", 0, 4, -1);
        Twins.refused(() -> justSo(0), BAD, "set", 0, 2, 21);
        Twins.refused(() -> justSo(0), BAD, "set", 1, 5, 31);
        Twins.refused(() -> justSo(0), BAD, "set", 1, 4, 29);
        Twins.refused(() -> justSo(0), BAD, "set", 1, 3, 31);
        Twins.refused(() -> justSo(0), NONE, "set", 2, 4, 9);
    }

    /** By PLACES: 0 comes at 10, which is its LAST. */
    private static void promise5HoldsByPlace() {
        border(() -> justSo(1), 42, 42, 43, 0, 0);
        border(() -> justSo(1), 32, 32, 31, 0, 1);
        border(() -> justSo(1), 32, 32, 33, 0, 1);
        border(() -> justSo(1), 42, 42, 43, 1, 1);
        border(() -> justSo(1), 42, 35, 34, 1, 0);
    }

    /** What is in no ROUND always may be as it likes. */
    private static void promise5Loose() {
        WindowRounds w = justSo(0);
        w.take(0);
        Calls.due(w, 0, "set", 0, 3, 10);
        Calls.due(w, 42, "set", 0, 0, 0);
        Calls.due(w, 5, "set", 0, 2, 20);
        Calls.due(w, 3, "set", 0, 5, 30);
        Calls.due(w, 10, "set", 0, 3, 0);
        Calls.due(w, 10, "set", 0, 4, 0);
    }

    /** "6 its ROUND (-5: none), 7 its place there (-5), 8 whether it is LOCKED, 9 .. (-5), 10 .. (-5), 11 SLACK (-5). NONE". */
    private static void promise6What() {
        for (int s : new int[] {-1, 6, 16, LEAST, MOST}) {
            for (int what : new int[] {0, 6, 8, 11}) {
                Twins.refused(Twins::busy, NONE, "of", s, what);
            }
        }
        for (int what : new int[] {-1, 12, LEAST, MOST}) {
            Twins.refused(Twins::busy, NONE, "of", 0, what);
            Twins.refused(Twins::busy, NONE, "of", 5, what);
        }
        int[] loose = {33, 33, 1, 0, 999, 1, NIL, NIL, 0, NIL, NIL, NIL};
        int[] locked = {30, 40, 6, 20, 60, 3, 1, 0, 1, 14, 20, 40};
        for (int what = 0; what < 12; what++) {
            Twins.asked(Twins::busy, loose[what], "of", 5, what);
            Twins.asked(Twins::busy, locked[what], "of", 3, what);
        }
        Calls.due(new WindowRounds(), NONE, "of", 0, 0);
        WindowRounds w = Twins.full();
        Calls.due(w, 49, "of", 15, 0);
        Calls.due(w, NONE, "of", 16, 0);
    }

    /** "At a STOP it BEGINS when it has come there, but not ahead of FIRST (it WAITS till then)". */
    private static void promise6Waits() {
        for (int first = 8; first <= 12; first++) {
            WindowRounds w = new WindowRounds();
            w.stop(42, 32, 1, first, 50, 5);
            w.stop(43, 32, 1, 0, 50, 0);
            w.put(0, 0, 0);
            w.put(1, 0, 1);
            int begins = Math.max(first, 10);
            Calls.due(w, 10, "of", 0, 9);
            Calls.due(w, begins, "of", 0, 10);
            Calls.due(w, begins - 10, "round", 0, 7);
            Calls.due(w, begins + 6, "of", 1, 9);
            Calls.due(w, begins + 6, "of", 1, 10);
            Calls.due(w, begins + 17, "round", 0, 6);
        }
    }

    /** "SLACK of a STOP in a ROUND: how much later at most it could BEGIN there": one later than that is refused. */
    private static void promise6SlackIsTheMost() {
        int[][] lasts = {{25, 999}, {999, 40}, {999, 999}, {10, 999}, {999, 30}};
        int[] homes = {1999, 1999, 62, 1999, 1999};
        int[] due = {15, 17, 17, 0, 7};
        for (int i = 0; i < lasts.length; i++) {
            WindowRounds w = new WindowRounds();
            w.stop(42, 32, 5, 0, lasts[i][0], 3);
            w.stop(42, 42, 15, 0, lasts[i][1], 2);
            w.put(0, 3, 0);
            w.put(1, 3, 1);
            w.rule(3, 2, homes[i]);
            int slack = w.of(0, 11);
            Check.due("SLACK by LAST " + lasts[i][0] + ", " + lasts[i][1] + ", HOME " + homes[i], slack, due[i]);
            Calls.due(w, 0, "set", 0, 3, 10 + slack);
            Calls.due(w, 0, "of", 0, 11);
            Check.due("one later", w.set(0, 3, 11 + slack), lasts[i][0] == 10 + slack ? BAD : STATE);
        }
    }

    /** "so that from there on all were in time (each STOP, and HOME, too)": what waits behind takes up what is late. */
    private static void promise6SlackThroughWaits() {
        WindowRounds w = justSo(2);
        Calls.due(w, 0, "of", 1, 11);
        Calls.due(w, 0, "of", 0, 11);
        w.set(0, 4, 17);
        Calls.due(w, 7, "of", 0, 11);
        w.set(0, 4, 18);
        Calls.due(w, 7, "of", 0, 11);
        w.set(1, 4, 31);
        Calls.due(w, 0, "of", 1, 11);
        w.rule(2, 2, 53);
        Calls.due(w, 1, "of", 1, 11);
        Calls.due(w, 8, "of", 0, 11);
        w.rule(2, 2, 54);
        Calls.due(w, 1, "of", 1, 11);
        Calls.due(w, 0, "set", 0, 3, 18);
        Calls.due(w, STATE, "set", 0, 5, 4);
        Calls.due(w, 10, "of", 0, 9);
    }

    /** "A STOP is LOCKED, or no more: whether it was. NONE; STATE: it is in no ROUND". */
    private static void promise7Lock() {
        for (boolean isLocked : new boolean[] {true, false}) {
            for (int s : new int[] {-1, 6, 16, LEAST, MOST}) {
                Twins.refused(Twins::busy, NONE, "lock", s, isLocked);
            }
            Twins.refused(Twins::busy, STATE, "lock", 5, isLocked);
            Twins.refused(Twins::busy, STATE, "lock", 4, isLocked);
            Calls.due(Twins.busy(), 1, "lock", 3, isLocked);
            Calls.due(Twins.busy(), 0, "lock", 0, isLocked);
            Twins.refused(WindowRounds::new, NONE, "lock", 0, isLocked);
        }
        Twins.asked(Twins::busy, 1, "lock", 3, true);
        Twins.asked(Twins::busy, 0, "lock", 0, false);
        Twins.alike("lock there and back", Twins.after(Twins::busy, w -> {
            w.lock(0, true);
            w.lock(0, false);
        }), Twins::busy);
        WindowRounds w = Twins.full();
        Calls.due(w, STATE, "lock", 15, true);
        w.put(15, 1, 0);
        Calls.due(w, 0, "lock", 15, true);
        Calls.due(w, 1, "of", 15, 8);
        Calls.due(w, 0, "of", 0, 8);
    }

    /** "locked ones that stay": nothing takes, moves or clears a LOCKED one till it is LOCKED no more. */
    private static void promise7LockedStays() {
        Twins.refused(Twins::busy, STATE, "take", 3);
        Twins.asked(Twins::busy, 0, "clear", 1);
        Twins.asked(Twins::busy, -100000, "shift", 3, 0, 0);
        Twins.asked(Twins::busy, -100000, "swap", 3, 0);
        WindowRounds w = Twins.busy();
        w.lock(3, false);
        Calls.due(w, 17, "take", 3);
        Calls.due(w, STATE, "lock", 3, true);
    }

    /** "THE DEPOT is elsewhere: how FAR that is. BAD; STATE". */
    private static void promise8Depot() {
        for (int v : new int[] {-1, 64, LEAST, MOST}) {
            Twins.refused(Twins::busy, BAD, "depot", v, 33);
            Twins.refused(Twins::busy, BAD, "depot", 30, v);
            Twins.refused(() -> justSo(0), BAD, "depot", v, v);
        }
        int[][] corners = {{0, 0}, {0, 63}, {63, 0}, {63, 63}};
        int[][] due = {{64, 63, 63, 62}, {32, 32, 32, 31}, {96, 95, 95, 93}};
        for (int metric = 0; metric < 3; metric++) {
            for (int c = 0; c < 4; c++) {
                WindowRounds w = new WindowRounds();
                w.price(0, metric);
                Calls.due(w, due[metric][c], "depot", corners[c][0], corners[c][1]);
                Calls.due(w, 0, "depot", corners[c][0], corners[c][1]);
                Calls.due(w, due[metric][c], "depot", 32, 32);
            }
        }
        Twins.asked(Twins::busy, 0, "depot", 30, 33);
    }

    /** Each of the ROUNDS has to HOLD: by LAST of its first one, and by HOME. */
    private static void promise8EachRound() {
        for (int round = 0; round < 4; round++) {
            int r = round;
            Twins.refused(() -> justSo(r), STATE, "depot", 31, 32);
            Twins.refused(() -> justSo(r), STATE, "depot", 32, 31);
            Twins.refused(() -> justSo(r), STATE, "depot", 0, 63);
            WindowRounds w = justSo(r);
            Calls.due(w, 1, "depot", 33, 32);
            Calls.due(w, 9, "of", 0, 9);
            Calls.due(w, 10, "depot", 42, 33);
            Calls.due(w, STATE, "depot", 42, 53);
            w.clear(r);
            w.rule(r, 2, 0);
            Calls.due(w, 20, "depot", 42, 53);
        }
        Twins.Making byHome = Twins.after(() -> justSo(1), w -> w.set(0, 4, 99));
        Calls.due(byHome.make(), 2, "depot", 33, 33);
        Twins.refused(byHome, STATE, "depot", 31, 32);
        WindowRounds w = byHome.make();
        w.rule(1, 2, 54);
        Calls.due(w, 2, "depot", 30, 32);
        Calls.due(w, STATE, "depot", 29, 32);
        Calls.due(w, 12, "of", 0, 9);
    }
}
