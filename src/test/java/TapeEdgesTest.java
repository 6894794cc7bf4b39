/** Promises 38 to 46 at their edges: rows that end, KINDS, THE IMAGE, what an item holds, what slides where. */
public final class TapeEdgesTest {
    private static final int NONE = -1, BAD = -2, STATE = -3, NIL = -5;
    private static final int NOTHING = -11, CAST = -12, PLACE = -13, SIZE = -14;
    private static final long NO = Long.MIN_VALUE;
    private static final int LEAST = Integer.MIN_VALUE, MOST = Integer.MAX_VALUE;
    private static final int[] BEYOND_ROUNDS = {-1, 4, LEAST, MOST};
    private static final int[] BEYOND_TAPES = {-1, 6, LEAST, MOST};

    private TapeEdgesTest() {
    }

    public static void main(String[] args) {
        promise38Refused();
        promise38RowsThatEnd();
        promise38FirstOtherwise();
        promise38WithoutStops();
        promise38SixteenStops();
        promise39Refused();
        promise39Kinds();
        promise39AsToldLast();
        promise40KeepsEach();
        promise40KeepsAsItIsThen();
        promise40LeavesOut();
        promise41Refused();
        promise41MoreThanOnce();
        promise41MakesRoom();
        promise42Refused();
        promise42Each();
        promise43Refused();
        promise43Sizes();
        promise43BecomesAnew();
        promise44Refused();
        promise44LowestBits();
        promise44SixtyItems();
        promise45Refused();
        promise46Refused();
        promise46Ends();
        promise46AsTheyWereBefore();
        promise46Sorts();
        Check.end("TapeEdgesTest");
    }

    /** "NONE: round, tape; CAST: it is no row of bytes": whatever the place, with STOPS or without. */
    private static void promise38Refused() {
        for (int i : new int[] {0, -1, 4, LEAST, MOST}) {
            for (int r : BEYOND_ROUNDS) {
                Twins.refused(Twins::busy, NONE, "judge", r, 0, i);
                Twins.refused(Twins::busy, NONE, "judge", r, 1, i);
                Twins.refused(Twins::busy, NONE, "judge", r, 6, i);
            }
            for (int t : BEYOND_TAPES) {
                Twins.refused(Twins::busy, NONE, "judge", 0, t, i);
                Twins.refused(Twins::busy, NONE, "judge", 2, t, i);
            }
            for (int t = 1; t < 5; t++) {
                Twins.refused(Twins::busy, CAST, "judge", 0, t, i);
                Twins.refused(Twins::busy, CAST, "judge", 2, t, i);
            }
            Twins.asked(Twins::busy, 100, "judge", 0, 5, i);
            Twins.asked(Twins::busy, NIL, "judge", 2, 5, i);
        }
        Twins.refused(Twins.after(Twins::busy, w -> w.tape(5, 4, 0)), CAST, "judge", 0, 5, 0);
        Twins.asked(Twins.after(Twins::busy, w -> w.tape(5, 0, 0)), 100, "judge", 0, 5, 0);
        Twins.asked(Twins.after(Twins::busy, w -> w.tape(1, -1, 0)), 100, "judge", 0, 1, 0);
    }

    private static WindowRounds withBytes(int... bytes) {
        WindowRounds w = Check.onALine();
        w.tape(4, 0, bytes.length);
        for (int i = 0; i < bytes.length; i++) {
            w.item(4, i, bytes[i]);
        }
        return w;
    }

    /** "100 and how many were looked at, if the row ends ahead of that (or the place is below 0 ..)": of 1, 0, 2. */
    private static void promise38RowsThatEnd() {
        int[] row = {1, 0, 2, 1, 0, 2};
        for (int n = 0; n <= 6; n++) {
            WindowRounds w = withBytes(java.util.Arrays.copyOf(row, n));
            Calls.due(w, n < 3 ? 100 + n : NIL, "judge", 0, 4, 0);
            Calls.due(w, n <= 3 ? 100 : n < 6 ? 100 + n - 3 : NIL, "judge", 0, 4, 3);
            Calls.due(w, 100, "judge", 0, 4, n);
            Calls.due(w, 100, "judge", 0, 4, n + 1);
            Calls.due(w, 100, "judge", 0, 4, 60);
            Calls.due(w, 100, "judge", 0, 4, -1);
            Calls.due(w, 100, "judge", 0, 4, LEAST);
            Calls.due(w, 100, "judge", 0, 4, MOST);
            Calls.due(w, 100, "judge", 0, 4, MOST - 1);
        }
    }

    /** "one by one, are JUDGED: the first that is otherwise": ahead of where the row ends, too. */
    private static void promise38FirstOtherwise() {
        Calls.due(withBytes(0, 0, 2), 0, "judge", 0, 4, 0);
        Calls.due(withBytes(0), 0, "judge", 0, 4, 0);
        Calls.due(withBytes(1, 1), 1, "judge", 0, 4, 0);
        Calls.due(withBytes(1, 1, 3), 1, "judge", 0, 4, 0);
        Calls.due(withBytes(1, 0, 3), 2, "judge", 0, 4, 0);
        Calls.due(withBytes(1, 0, -1), 2, "judge", 0, 4, 0);
        Calls.due(withBytes(1, 0, 2), NIL, "judge", 0, 4, 0);
        Calls.due(withBytes(1, 0, 2, 3), NIL, "judge", 0, 4, 0);
        Calls.due(withBytes(9, 1, 0, 2), NIL, "judge", 0, 4, 1);
        Calls.due(withBytes(1, 256, 258), NIL, "judge", 0, 4, 0);
        Calls.due(withBytes(3), NIL, "judge", 1, 4, 0);
        Calls.due(withBytes(-3), 0, "judge", 1, 4, 0);
    }

    /** "-5: none, or it has none": named ahead of what a TAPE lacks (its end, a place, all of it); NONE and CAST are ahead of it. */
    private static void promise38WithoutStops() {
        for (Twins.Deed deed : Twins.EMPTYINGS) {
            WindowRounds w = withBytes(0, 1, 2);
            Calls.due(w, 100, "judge", 1, 4, 3);
            deed.on(w);
            Calls.due(w, 0, "round", 1, 3);
            w.tape(0, 0, 0);
            for (int sort = 1; sort < 4; sort++) {
                w.tape(sort, sort, 3);
            }
            for (int i : new int[] {0, 2, 3, 60, -1, LEAST, MOST}) {
                judgeWithoutStops(w, 1, i);
                judgeWithoutStops(w, 3, i);
            }
        }
    }

    /** TAPE 4 holds three bytes, 0 a row of none, 5 nothing, 1 to 3 are of other sorts. */
    private static void judgeWithoutStops(WindowRounds w, int round, int i) {
        Calls.due(w, NIL, "judge", round, 4, i);
        Calls.due(w, NIL, "judge", round, 0, i);
        Calls.due(w, NIL, "judge", round, 5, i);
        for (int t = 1; t < 4; t++) {
            Calls.due(w, CAST, "judge", round, t, i);
        }
        Calls.due(w, NONE, "judge", round, 6, i);
        Calls.due(w, NONE, "judge", round + 4, 1, i);
    }

    private static void promise38SixteenStops() {
        WindowRounds w = new WindowRounds();
        w.tape(0, 0, 60);
        for (int s = 0; s < 16; s++) {
            w.stop(32, 32, 1, 0, 999, 0);
            w.put(s, 3, s);
            w.item(0, 44 + s, s);
        }
        Calls.due(w, NIL, "judge", 3, 0, 44);
        Calls.due(w, 0, "judge", 3, 0, 43 + 2);
        w.slide(0, 44, 0, 43, 16);
        Calls.due(w, NIL, "judge", 3, 0, 43);
        w.item(0, 58, 14);
        Calls.due(w, 15, "judge", 3, 0, 43);
        for (int s = 0; s < 15; s++) {
            w.item(0, 45 + s, s);
        }
        Calls.due(w, 115, "judge", 3, 0, 45);
    }

    /** "BAD: k; NOTHING: it was none, or never asked; CAST": the first that is named. */
    private static void promise39Refused() {
        Twins.Making asked = Twins.after(WindowRounds::new, w -> w.best(0));
        Twins.Making[] all = {WindowRounds::new, asked, Twins::busy, Twins::full};
        for (int k : new int[] {-1, 5, LEAST, MOST}) {
            for (Twins.Making making : all) {
                Twins.refused(making, BAD, "taken", k);
            }
        }
        for (int k = 0; k < 5; k++) {
            Twins.refused(WindowRounds::new, NOTHING, "taken", k);
            Twins.refused(asked, NOTHING, "taken", k);
            Twins.refused(Twins::full, NOTHING, "taken", k);
            Twins.refused(Twins::busy, k < 2 ? 1 : CAST, "taken", k);
        }
    }

    private static void taken(WindowRounds w, int kind) {
        for (int k = 0; k < 5; k++) {
            boolean isSo = k == 0 || k == kind || k == 4 && kind > 1;
            Calls.due(w, kind < 1 ? NOTHING : isSo ? kind : CAST, "taken", k);
        }
    }

    /** "(0 any, 1 TURN, 2 SHIFT, 3 SWAP, 4 one of STOPS told by numbers, as SHIFT and SWAP are): its KIND (1 .. 3)". */
    private static void promise39Kinds() {
        WindowRounds turn = Check.onALine();
        turn.best(4);
        taken(turn, 1);
        WindowRounds shift = Check.onALine();
        shift.lock(0, true);
        shift.best(3);
        taken(shift, 2);
        WindowRounds swap = Check.ofTwoSides();
        swap.best(2);
        taken(swap, 3);
        WindowRounds none = Check.onALine();
        none.improve(1);
        none.best(1);
        taken(none, 0);
    }

    /** "as best() told one last (FULL or NONE didn't)"; "it was none". */
    private static void promise39AsToldLast() {
        WindowRounds w = Check.onALine();
        w.turn(0, 0, 1);
        taken(w, 0);
        w.best(5);
        taken(w, 0);
        w.best(0);
        taken(w, 1);
        w.improve(20);
        taken(w, 1);
        w.best(-1);
        taken(w, 1);
        w.image();
        w.clear(0);
        taken(w, 1);
        w.best(0);
        taken(w, 0);
        w.undo();
        taken(w, 0);
        w.price(1, 99);
        taken(w, 0);
        w.best(0);
        taken(w, 2);
        for (int i = 0; i < 73; i++) {
            w.improve(20);
        }
        w.improve(17);
        Calls.due(w, 1500, "count", 5);
        Calls.due(w, -4, "best", 0);
        taken(w, 2);
    }

    /** Each of what THE IMAGE holds is changed, and is as it was again. */
    private static void promise40KeepsEach() {
        Twins.Deed[] changes = {w -> w.depot(31, 33), w -> w.price(0, 0), w -> w.price(1, 4), w -> w.stop(1, 2, 3, 4, 5, 6),
            w -> w.set(0, 0, 41), w -> w.set(0, 1, 31), w -> w.set(0, 2, 4), w -> w.set(0, 3, 1), w -> w.set(0, 4, 99),
            w -> w.set(0, 5, 6), w -> w.set(5, 5, 6), w -> w.lock(3, false), w -> w.lock(1, true), w -> w.put(5, 3, 0),
            w -> w.put(5, 0, 1), w -> w.take(0), w -> w.clear(0), w -> w.rule(0, 0, 19), w -> w.rule(1, 1, 8),
            w -> w.rule(2, 2, 3), w -> w.rule(3, 0, 0), w -> w.see(5, 9), w -> w.see(-1, 0), w -> w.plan(3, 8),
            w -> w.plan(-1, 0), w -> w.book(3, 9), w -> w.book(-1, 0)};
        for (int i = 0; i < changes.length; i++) {
            int at = i;
            Twins.alike("undo of change " + i, Twins.after(Twins::busy, w -> {
                w.image();
                changes[at].on(w);
                Calls.due(w, 6, "undo");
            }), Twins.after(Twins::busy, WindowRounds::image));
            Twins.alike("undo of change " + i + " behind undo", Twins.after(Twins::busy, w -> {
                w.image();
                w.undo();
                changes[at].on(w);
                Calls.due(w, 6, "undo");
            }), Twins.after(Twins::busy, WindowRounds::image));
        }
    }

    /** "THE IMAGE is taken": the last one taken, as all is then; nothing else changes. */
    private static void promise40KeepsAsItIsThen() {
        for (Twins.Making making : new Twins.Making[] {WindowRounds::new, Twins::busy, Twins::full}) {
            Twins.alikeNow("image()", Twins.after(making, WindowRounds::image), making);
            Twins.alike("image() twice", Twins.after(Twins.after(making, WindowRounds::image), WindowRounds::image),
                    Twins.after(making, WindowRounds::image));
        }
        for (int many = 0; many <= 16; many++) {
            WindowRounds w = new WindowRounds();
            for (int s = 0; s < many; s++) {
                w.stop(33, 32, 1, 0, 999, 0);
            }
            Calls.due(w, many, "image");
            w.fill();
            Calls.due(w, many, "undo");
            Calls.due(w, many, "told", 2);
            w.fill();
            Calls.due(w, many, "image");
            w.clear(0);
            Calls.due(w, many, "undo");
            Calls.due(w, 0, "told", 2);
        }
    }

    /** "(not THE TEXT, TAPES, WORK)"; and taken() "THE IMAGE doesn't keep it". */
    private static void promise40LeavesOut() {
        WindowRounds w = Twins.busy();
        w.image();
        w.feed('1');
        w.item(2, 0, 77);
        w.tape(3, -1, 0);
        w.tape(5, 1, 9);
        w.lock(0, true);
        w.lock(1, true);
        w.price(1, 50);
        w.improve(2);
        w.best(0);
        int kind = w.taken(0);
        Calls.due(w, 6, "undo");
        Calls.due(w, 6, "count", 4);
        Calls.due(w, 77, "peek", 2, 0);
        Calls.due(w, NOTHING, "item", 3, 0, 1);
        Calls.due(w, 0, "peek", 5, 8);
        Calls.due(w, 4, "count", 5);
        Calls.due(w, kind, "taken", 0);
        Calls.due(w, -15, "read");
        Calls.due(w, 6, "undo");
        Calls.due(w, 0, "count", 4);
    }

    /** "STATE: there is none". */
    private static void promise41Refused() {
        Twins.refused(WindowRounds::new, STATE, "undo");
        Twins.refused(Twins::full, STATE, "undo");
        Twins.refused(() -> Twins.spent(1500), STATE, "undo");
        WindowRounds w = new WindowRounds();
        Calls.due(w, 0, "image");
        Calls.due(w, 0, "undo");
    }

    /** THE IMAGE stays when all is as it again. */
    private static void promise41MoreThanOnce() {
        WindowRounds w = Check.onALine();
        w.image();
        for (int times = 0; times < 3; times++) {
            w.take(times);
            w.stop(1, 1, 1, 1, 999, 1);
            w.put(4, 2, 0);
            Calls.due(w, 4, "undo");
            Check.row(w, 0, 1, 0, 2);
            Check.row(w, 1, 3);
            Check.row(w, 2);
        }
    }

    /** What came behind THE IMAGE is no more, and there is room again. */
    private static void promise41MakesRoom() {
        WindowRounds w = new WindowRounds();
        w.stop(33, 32, 1, 0, 999, 0);
        w.image();
        for (int s = 1; s < 16; s++) {
            w.stop(34, 32, 1, 0, 999, 0);
        }
        for (int i = 0; i < 8; i++) {
            w.plan(2, 15);
            w.book(0, 16);
            w.see(15, 2);
        }
        w.fill();
        w.lock(15, true);
        Calls.due(w, 1, "undo");
        Calls.due(w, NONE, "of", 1, 0);
        Calls.due(w, NONE, "plan", 2, 15);
        Calls.due(w, 1, "plan", 2, 0);
        Calls.due(w, 1, "book", 0, 16);
        Calls.due(w, 1, "see", 0, 1);
        Calls.due(w, 0, "told", 3);
        for (int s = 1; s < 16; s++) {
            Calls.due(w, s, "stop", 40, 32, 1, 0, 999, 0);
            Calls.due(w, NIL, "of", s, 6);
            Calls.due(w, 0, "of", s, 8);
            Calls.due(w, 40, "of", s, 0);
        }
        Calls.due(w, -4, "stop", 40, 32, 1, 0, 999, 0);
    }

    /** "BAD". */
    private static void promise42Refused() {
        for (int what : new int[] {-1, 6, LEAST, MOST}) {
            Twins.refused(WindowRounds::new, BAD, "count", what);
            Twins.refused(Twins::busy, BAD, "count", what);
        }
        int[] busy = {6, 2, 4, 3, 5, 1};
        int[] full = {16, 5, 8, 8, 100, 0};
        for (int what = 0; what < 6; what++) {
            Twins.asked(WindowRounds::new, 0, "count", what);
            Twins.asked(Twins::busy, busy[what], "count", what);
            Twins.asked(Twins::full, full[what], "count", what);
        }
    }

    /** "0 STOPS, 1 SEEN, 2 of the PLAN, 3 of the BOOK, 4 bytes of THE TEXT, 5 WORK": one more of each alone. */
    private static void promise42Each() {
        Twins.Deed[] more = {w -> w.stop(1, 1, 1, 1, 1, 1), w -> w.see(0, 0), w -> w.plan(0, 0), w -> w.book(0, 0),
            w -> w.feed('1'), WindowRounds::fill};
        for (int i = 0; i < 6; i++) {
            WindowRounds w = Twins.busy();
            more[i].on(w);
            for (int what = 0; what < 6; what++) {
                Calls.due(w, Twins.busy().count(what) + (what == i ? 1 : 0), "count", what);
            }
        }
    }

    /** "NONE: tape; BAD: sort, n above 60; SIZE": the first that is named. */
    private static void promise43Refused() {
        for (int t : BEYOND_TAPES) {
            for (int sort : new int[] {-1, 0, 4, 5, -2}) {
                Twins.refused(Twins::busy, NONE, "tape", t, sort, 3);
                Twins.refused(Twins::busy, NONE, "tape", t, sort, -1);
                Twins.refused(Twins::busy, NONE, "tape", t, sort, 61);
            }
        }
        for (int t = 0; t < 6; t++) {
            for (int sort : new int[] {-2, 5, LEAST, MOST}) {
                for (int n : new int[] {0, 60, 61, -1}) {
                    Twins.refused(Twins::busy, BAD, "tape", t, sort, n);
                }
            }
            for (int sort = 0; sort < 5; sort++) {
                Twins.refused(Twins::busy, BAD, "tape", t, sort, 61);
                Twins.refused(Twins::busy, BAD, "tape", t, sort, MOST);
                Twins.refused(Twins::busy, SIZE, "tape", t, sort, -1);
                Twins.refused(Twins::busy, SIZE, "tape", t, sort, LEAST);
            }
        }
    }

    /** "a row of n (0 .. 60) of a sort, all 0, or holds nothing (sort -1: n does not matter): 1". */
    private static void promise43Sizes() {
        for (int t = 0; t < 6; t++) {
            for (int sort = 0; sort < 5; sort++) {
                for (int n : new int[] {0, 1, 59, 60}) {
                    WindowRounds w = new WindowRounds();
                    Calls.due(w, 1, "tape", t, sort, n);
                    for (int i = 0; i < n; i++) {
                        Calls.due(w, 0, "peek", t, i);
                    }
                    Calls.due(w, NO, "peek", t, n);
                    Calls.due(w, PLACE, "item", t, n, 1);
                    Calls.due(w, n, "slide", t, 0, t, 0, n);
                    Calls.due(w, PLACE, "slide", t, 0, t, 0, n + 1);
                }
            }
            for (int n : new int[] {0, 60, 61, -1, LEAST, MOST}) {
                WindowRounds w = Twins.busy();
                Calls.due(w, 1, "tape", t, -1, n);
                Calls.due(w, NO, "peek", t, 0);
                Calls.due(w, NOTHING, "item", t, 0, 1);
                Calls.due(w, 1, "tape", t, -1, n);
            }
        }
    }

    /** "A TAPE becomes a row .. all 0": whatever it was; no other one changes. */
    private static void promise43BecomesAnew() {
        for (int t = 0; t < 6; t++) {
            WindowRounds w = new WindowRounds();
            for (int other = 0; other < 6; other++) {
                w.tape(other, 3, 60);
                w.item(other, 0, 10 + other);
                w.item(other, 59, 20 + other);
            }
            Calls.due(w, 1, "tape", t, 3, 2);
            Calls.due(w, 0, "peek", t, 0);
            w.item(t, 1, 7);
            Calls.due(w, 1, "tape", t, -1, 2);
            Calls.due(w, 1, "tape", t, 0, 60);
            for (int i : new int[] {0, 1, 59}) {
                Calls.due(w, 0, "peek", t, i);
            }
            for (int other = 0; other < 6; other++) {
                if (other != t) {
                    Calls.due(w, 10 + other, "peek", other, 0);
                    Calls.due(w, 20 + other, "peek", other, 59);
                }
            }
        }
    }

    /** "NONE; NOTHING; PLACE": the first that is named. */
    private static void promise44Refused() {
        for (int t : BEYOND_TAPES) {
            Twins.refused(Twins::busy, NONE, "item", t, 0, 1);
            Twins.refused(Twins::busy, NONE, "item", t, -1, 1);
            Twins.refused(WindowRounds::new, NONE, "item", t, 0, 1);
        }
        for (int i : new int[] {0, -1, 60, LEAST, MOST}) {
            Twins.refused(Twins::busy, NOTHING, "item", 5, i, 1);
            Twins.refused(WindowRounds::new, NOTHING, "item", 0, i, 1);
        }
        for (int t = 0; t < 5; t++) {
            int size = 3 + t % 3;
            for (int i : new int[] {-1, size, size + 1, 59, 60, LEAST, MOST}) {
                Twins.refused(Twins::busy, PLACE, "item", t, i, 1);
            }
            Calls.due(Twins.busy(), 1, "item", t, 0, 1);
            Calls.due(Twins.busy(), 1, "item", t, size - 1, 1);
        }
        Twins.Making empty = Twins.after(WindowRounds::new, w -> w.tape(0, 0, 0));
        Twins.refused(empty, PLACE, "item", 0, 0, 1);
        Twins.refused(empty, PLACE, "item", 0, -1, 1);
    }

    /** "(its lowest bits, as many as an item has; booleans: whether v is not 0)". */
    private static void promise44LowestBits() {
        long[] values = {0, 1, -1, 2, 127, 128, -128, -129, 255, 256, 32767, 32768, -32768, -32769, 65535, 65536,
            Integer.MAX_VALUE, 1L << 31, -(1L << 31), -(1L << 31) - 1, (1L << 32) - 1, 1L << 32, 1L << 62,
            Long.MAX_VALUE, Long.MIN_VALUE, Long.MIN_VALUE + 1, 0x8000000000000080L, 0x7fff8000ffff7f80L};
        for (long v : values) {
            WindowRounds w = new WindowRounds();
            long[] due = {(byte) v, (short) v, (int) v, v, v == 0 ? 0 : 1};
            for (int sort = 0; sort < 5; sort++) {
                w.tape(sort, sort, 3);
                Calls.due(w, 1, "item", sort, 1, v);
                Calls.due(w, due[sort], "peek", sort, 1);
                Calls.due(w, 0, "peek", sort, 0);
                Calls.due(w, 0, "peek", sort, 2);
            }
        }
    }

    private static void promise44SixtyItems() {
        WindowRounds w = new WindowRounds();
        for (int t = 0; t < 6; t += 5) {
            w.tape(t, 3, 60);
            for (int i = 0; i < 60; i++) {
                Calls.due(w, 1, "item", t, i, 100L * t + i + 1);
            }
        }
        for (int t = 0; t < 6; t += 5) {
            for (int i = 0; i < 60; i++) {
                Calls.due(w, 100L * t + i + 1, "peek", t, i);
            }
        }
    }

    /** "NO: no such TAPE, nothing there, no such place". */
    private static void promise45Refused() {
        for (int t : BEYOND_TAPES) {
            for (int i : new int[] {0, 1, -1, 60}) {
                Twins.refused(Twins::busy, NO, "peek", t, i);
            }
        }
        for (int i : new int[] {0, -1, 59, LEAST, MOST}) {
            Twins.refused(Twins::busy, NO, "peek", 5, i);
        }
        for (int t = 0; t < 5; t++) {
            int size = 3 + t % 3;
            for (int i : new int[] {-1, size, 59, 60, LEAST, MOST}) {
                Twins.refused(Twins::busy, NO, "peek", t, i);
            }
            Twins.asked(Twins::busy, 0, "peek", t, 0);
            Twins.asked(Twins::busy, new long[] {1, 16964, 2000007, 3000010, 1}[t], "peek", t, 1);
            Twins.asked(Twins::busy, t == 4 ? 1 : -t, "peek", t, 2);
        }
        WindowRounds w = new WindowRounds();
        w.tape(0, 3, 1);
        w.item(0, 0, NO);
        Calls.due(w, NO, "peek", 0, 0);
    }

    /** 1 and 2 are rows of 4 and 3 ints, 3 is one of 4 shorts, 4 one of none; 0 and 5 hold nothing. */
    private static WindowRounds ofRows() {
        WindowRounds w = new WindowRounds();
        int[] sizes = {0, 4, 3, 4};
        for (int t = 1; t < 4; t++) {
            w.tape(t, t == 3 ? 1 : 2, sizes[t]);
            for (int i = 0; i < sizes[t]; i++) {
                w.item(t, i, 10 * t + i);
            }
        }
        w.tape(4, 2, 0);
        return w;
    }

    /** "NONE: tapes; NOTHING; CAST: of unlike sorts; PLACE: n, i or j is below 0, or beyond either's end". */
    private static void promise46Refused() {
        Twins.Making making = TapeEdgesTest::ofRows;
        for (int t : BEYOND_TAPES) {
            for (int other = 0; other < 6; other++) {
                Twins.refused(making, NONE, "slide", t, 0, other, 0, 1);
                Twins.refused(making, NONE, "slide", other, 0, t, 0, 1);
                Twins.refused(making, NONE, "slide", other, -1, t, -1, -1);
            }
            Twins.refused(making, NONE, "slide", t, 0, t, 0, 0);
        }
        for (int other = 0; other < 6; other++) {
            for (int n : new int[] {0, 1, -1, 61}) {
                Twins.refused(making, NOTHING, "slide", 0, 0, other, 0, n);
                Twins.refused(making, NOTHING, "slide", other, 0, 5, 0, n);
                Twins.refused(making, NOTHING, "slide", other, -1, 0, n, n);
            }
        }
        for (int other : new int[] {1, 2, 4}) {
            for (int n : new int[] {0, 1, -1, 61}) {
                Twins.refused(making, CAST, "slide", 3, 0, other, 0, n);
                Twins.refused(making, CAST, "slide", other, 0, 3, 0, n);
                Twins.refused(making, CAST, "slide", other, -1, 3, 99, n);
            }
        }
        int[][] bad = {{-1, 0, 1}, {-1, 0, 0}, {0, -1, 1}, {0, -1, 0}, {0, 0, -1}, {4, 3, -1}, {0, 0, 4}, {1, 0, 4}, {2, 0, 3},
            {4, 0, 1}, {5, 0, 0}, {0, 4, 0}, {0, 3, 1}, {0, 1, 3}, {0, 2, 2}, {LEAST, 0, 1}, {0, LEAST, 1}, {0, 0, LEAST},
            {MOST, 0, 1}, {0, MOST, 1}, {0, 0, MOST}, {1, 1, MOST}, {MOST, MOST, MOST}, {LEAST, LEAST, LEAST}, {MOST, 0, 2},
            {-2, 0, 2}, {0, -2, 2}, {MOST, 0, LEAST}};
        for (int[] b : bad) {
            Twins.refused(making, PLACE, "slide", 1, b[0], 2, b[1], b[2]);
        }
        Twins.refused(making, PLACE, "slide", 4, 0, 1, 0, 1);
        Twins.refused(making, PLACE, "slide", 1, 0, 4, 0, 1);
        Twins.refused(making, PLACE, "slide", 2, 0, 1, 2, 3);
        Twins.refused(making, PLACE, "slide", 2, 1, 1, 0, 3);
        Twins.refused(making, PLACE, "slide", 1, 0, 1, 1, 4);
        Twins.refused(making, PLACE, "slide", 1, 1, 1, 0, 4);
    }

    /** "n items of a TAPE from i on come to another one (or the same) from j on": up to either's end, and none of them. */
    private static void promise46Ends() {
        int[][] fine = {{1, 4, 2, 3, 0}, {1, 0, 2, 0, 0}, {1, 1, 2, 0, 3}, {1, 0, 2, 0, 3}, {1, 3, 2, 2, 1}, {2, 0, 1, 1, 3},
            {2, 2, 1, 3, 1}, {1, 0, 1, 0, 4}, {1, 4, 1, 4, 0}, {4, 0, 4, 0, 0}, {4, 0, 1, 4, 0}, {1, 4, 4, 0, 0}, {3, 1, 3, 0, 3}};
        for (int[] f : fine) {
            WindowRounds w = ofRows();
            long[][] due = new long[5][4];
            for (int t = 1; t < 5; t++) {
                for (int i = 0; i < 4; i++) {
                    due[t][i] = w.peek(t, i);
                }
            }
            long[] were = due[f[0]].clone();
            for (int i = 0; i < f[4]; i++) {
                due[f[2]][f[3] + i] = were[f[1] + i];
            }
            Calls.due(w, f[4], "slide", f[0], f[1], f[2], f[3], f[4]);
            for (int t = 1; t < 5; t++) {
                for (int i = 0; i < 4; i++) {
                    Calls.due(w, due[t][i], "peek", t, i);
                }
            }
        }
    }

    /** "as they all were before": within one row, later and earlier, by each distance. */
    private static void promise46AsTheyWereBefore() {
        for (int i = 0; i <= 6; i++) {
            for (int j = 0; j <= 6; j++) {
                int n = 6 - Math.max(i, j);
                WindowRounds w = new WindowRounds();
                w.tape(5, 0, 6);
                for (int at = 0; at < 6; at++) {
                    w.item(5, at, 50 + at);
                }
                Calls.due(w, n, "slide", 5, i, 5, j, n);
                Calls.due(w, PLACE, "slide", 5, i, 5, j, n + 1);
                for (int at = 0; at < 6; at++) {
                    Calls.due(w, at >= j && at < j + n ? 50 + at - j + i : 50 + at, "peek", 5, at);
                }
            }
        }
    }

    /** Each sort slides to the same sort alone; 60 items at once. */
    private static void promise46Sorts() {
        for (int sort = 0; sort < 5; sort++) {
            for (int other = 0; other < 5; other++) {
                WindowRounds w = new WindowRounds();
                w.tape(0, sort, 60);
                w.tape(5, other, 60);
                w.item(0, 0, -1);
                w.item(0, 59, 1);
                Calls.due(w, sort == other ? 60 : CAST, "slide", 0, 0, 5, 0, 60);
                Calls.due(w, sort != other ? 0 : sort == 4 ? 1 : -1, "peek", 5, 0);
                Calls.due(w, sort != other ? 0 : 1, "peek", 5, 59);
                Calls.due(w, 0, "peek", 5, 1);
            }
        }
    }
}
