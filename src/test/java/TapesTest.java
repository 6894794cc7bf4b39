/** Promises 38 to 46: judging, what was taken, THE IMAGE, counts, TAPES. */
public final class TapesTest {
    private static final int NONE = -1, BAD = -2, STATE = -3, NIL = -5;
    private static final int NOTHING = -11, CAST = -12, PLACE = -13, SIZE = -14;
    private static final long NO = Long.MIN_VALUE;

    private TapesTest() {
    }

    public static void main(String[] args) {
        promise38Judge();
        promise38JudgeOfNone();
        promise39Taken();
        promise39TakenBySwap();
        promise40And41();
        promise41Undo();
        promise42Count();
        promise43Tape();
        promise44Item();
        promise45Peek();
        promise46Slide();
        promise46SlideWithin();
        Check.end("TapesTest");
    }

    /** 2, 0, 1 in ROUND 3. */
    private static WindowRounds ofThree() {
        WindowRounds w = new WindowRounds();
        w.stop(42, 32, 1, 0, 999, 0);
        w.stop(52, 32, 1, 0, 999, 0);
        w.stop(32, 42, 1, 0, 999, 0);
        w.put(2, 3, 0);
        w.put(0, 3, 1);
        w.put(1, 3, 2);
        return w;
    }

    private static void promise38Judge() {
        WindowRounds w = ofThree();
        Check.due("no such ROUND", w.judge(4, 0, 0), NONE);
        Check.due("no such ROUND", w.judge(-1, 0, 0), NONE);
        Check.due("no such TAPE", w.judge(3, 6, 0), NONE);
        Check.due("no such TAPE", w.judge(3, -1, 0), NONE);
        for (int sort = 1; sort < 5; sort++) {
            w.tape(sort, sort, 5);
            Check.due("no bytes", w.judge(3, sort, 0), CAST);
            Check.due("CAST whatever the place", w.judge(3, sort, -1), CAST);
            Check.due("NONE is ahead of CAST", w.judge(4, sort, 0), NONE);
        }
        w.tape(5, 0, 5);
        int[] items = {7, 2, 0, 1, 2};
        for (int i = 0; i < 5; i++) {
            w.item(5, i, items[i]);
        }
        Check.due("the first is otherwise", w.judge(3, 5, 0), 0);
        Check.due("all so", w.judge(3, 5, 1), NIL);
        Check.due("otherwise at once", w.judge(3, 5, 2), 0);
        Check.due("the row ends behind one", w.judge(3, 5, 4), 101);
        Check.due("the row is at its end", w.judge(3, 5, 5), 100);
        Check.due("beyond it", w.judge(3, 5, 6), 100);
        Check.due("far beyond it", w.judge(3, 5, Integer.MAX_VALUE), 100);
        Check.due("below", w.judge(3, 5, -1), 100);
        Check.due("far below", w.judge(3, 5, Integer.MIN_VALUE), 100);
        w.item(5, 2, 1);
        Check.due("the second is otherwise", w.judge(3, 5, 1), 1);
        w.item(5, 2, 0);
        w.item(5, 3, 1 + 256);
        Check.due("by its lowest bits", w.judge(3, 5, 1), NIL);
        w.item(5, 3, -1);
        Check.due("the third is otherwise", w.judge(3, 5, 1), 2);
        w.tape(5, 0, 2);
        w.item(5, 0, 2);
        Check.due("the row ends behind two", w.judge(3, 5, 0), 102);
        w.tape(5, -1, 0);
        Check.due("it holds nothing", w.judge(3, 5, 0), 100);
    }

    private static void promise38JudgeOfNone() {
        WindowRounds w = ofThree();
        w.tape(0, 0, 3);
        Check.due("no STOPS", w.judge(0, 0, 0), NIL);
        Check.due("no STOPS, whatever the place", w.judge(0, 0, -1), NIL);
        Check.due("no STOPS, beyond the end", w.judge(0, 0, 4), NIL);
        Check.due("no STOPS, nothing there", w.judge(0, 1, 0), NIL);
        w.tape(1, 2, 3);
        Check.due("no STOPS, but no bytes", w.judge(0, 1, 0), CAST);
    }

    private static void taken(WindowRounds w, int... due) {
        for (int k = 0; k < 5; k++) {
            Check.due("taken(" + k + ")", w.taken(k), due[k]);
        }
        Check.due("k above", w.taken(5), BAD);
        Check.due("k below", w.taken(-1), BAD);
    }

    private static void promise39Taken() {
        WindowRounds w = new WindowRounds();
        taken(w, NOTHING, NOTHING, NOTHING, NOTHING, NOTHING);
        w.stop(40, 32, 1, 0, 999, 0);
        w.stop(48, 32, 1, 0, 999, 0);
        w.stop(56, 32, 1, 0, 999, 0);
        w.put(1, 0, 0);
        w.put(0, 0, 1);
        w.put(2, 0, 2);
        w.image();
        taken(w, NOTHING, NOTHING, NOTHING, NOTHING, NOTHING);
        w.best(4);
        taken(w, 1, 1, CAST, CAST, CAST);
        Check.due("NONE tells nothing", w.best(5), NONE);
        w.lock(0, true);
        taken(w, 1, 1, CAST, CAST, CAST);
        w.best(0);
        taken(w, 2, CAST, 2, CAST, 2);
        w.undo();
        taken(w, 2, CAST, 2, CAST, 2);
        w.improve(1);
        taken(w, 2, CAST, 2, CAST, 2);
        w.best(1);
        taken(w, NOTHING, NOTHING, NOTHING, NOTHING, NOTHING);
    }

    private static void promise39TakenBySwap() {
        WindowRounds w = Check.ofTwoSides();
        Check.due("a SWAP", w.best(0), 3);
        taken(w, 3, CAST, CAST, 3, 3);
        Check.due("the SWAP is done", w.improve(1), 1);
        Check.row(w, 0, 0, 2);
        Check.row(w, 1, 1, 3);
        Check.due("the place of 0", w.of(0, 7), 0);
        Check.due("the ROUND of 1", w.of(1, 6), 1);
    }

    private static void promise40And41() {
        WindowRounds w = ofThree();
        Check.due("none yet", w.undo(), STATE);
        w.price(0, 1);
        w.price(1, 5);
        w.depot(30, 31);
        w.lock(0, true);
        w.rule(3, 0, 30);
        w.rule(3, 1, 11);
        w.rule(3, 2, 1500);
        w.see(2, 9);
        w.plan(3, 7);
        w.plan(0, 0);
        w.book(3, 3);
        w.feed('1');
        w.tape(0, 2, 3);
        Check.due("image", w.image(), 3);
        w.lock(0, false);
        w.clear(3);
        w.price(0, 2);
        w.price(1, 6);
        w.depot(1, 2);
        w.rule(3, 0, 31);
        w.rule(3, 1, 12);
        w.rule(3, 2, 1501);
        w.set(2, 0, 1);
        w.set(2, 5, 9);
        w.stop(1, 1, 1, 1, 1, 1);
        w.see(-1, 0);
        w.see(1, 1);
        w.see(1, 1);
        w.plan(-1, 0);
        w.plan(1, 0);
        w.book(-1, 0);
        w.book(3, 0);
        w.book(3, 1);
        w.feed(',');
        w.item(0, 0, 77);
        w.fill();
        Check.due("undo", w.undo(), 3);
        afterUndo(w);
        w.clear(3);
        Check.due("undo once more", w.undo(), 3);
        Check.row(w, 3, 2, 0, 1);
    }

    private static void afterUndo(WindowRounds w) {
        Check.row(w, 3, 2, 0, 1);
        Check.row(w, 0);
        Check.due("no STOP 3", w.of(3, 0), NONE);
        Check.due("x", w.of(2, 0), 32);
        Check.due("STAY", w.of(2, 5), 0);
        Check.due("LOCKED", w.of(0, 8), 1);
        Check.due("ROUND", w.of(1, 6), 3);
        Check.due("ROOM", w.round(3, 0), 30);
        Check.due("LEAVE", w.round(3, 1), 11);
        Check.due("HOME", w.round(3, 2), 1500);
        Check.due("METRIC", w.price(0, 1), 1);
        Check.due("FIXED", w.price(1, 5), 5);
        Check.due("THE DEPOT", w.depot(30, 31), 0);
        Check.due("SEEN", w.count(1), 1);
        Check.due("SEEN is 2 at 9", w.fits(3, 0), 0);
        Check.due("the PLAN", w.count(2), 2);
        Check.due("its FIXED", w.ends(0), w.told(1) + 7);
        Check.due("the BOOK", w.count(3), 1);
        Check.due("is as it looks", w.looked(), NIL);
        Check.due("THE TEXT isn't kept", w.count(4), 2);
        Check.due("nor TAPES", w.peek(0, 0), 77);
        Check.due("nor WORK", w.count(5), 3);
    }

    private static void promise41Undo() {
        WindowRounds w = new WindowRounds();
        Check.due("of nothing", w.image(), 0);
        for (int s = 0; s < 16; s++) {
            w.stop(33, 32, 0, 0, 999, 0);
        }
        w.fill();
        w.lock(5, true);
        Check.due("back to nothing", w.undo(), 0);
        Check.due("none", w.told(2), 0);
        Check.due("a new one", w.stop(34, 32, 0, 0, 999, 0), 0);
        for (int s = 1; s < 16; s++) {
            Check.due("a new one", w.stop(34, 32, 0, 0, 999, 0), s);
        }
        Check.due("in no ROUND", w.of(5, 6), NIL);
        Check.due("not LOCKED", w.of(5, 8), 0);
        Check.due("a newer image", w.image(), 16);
        w.fill();
        Check.due("takes the place of the older", w.undo(), 16);
        Check.due("all are loose", w.told(2), 16);
    }

    private static void promise42Count() {
        WindowRounds w = ofThree();
        w.see(0, 1);
        w.see(0, 2);
        w.plan(0, 0);
        for (int i = 0; i < 4; i++) {
            w.book(0, 0);
        }
        for (int i = 0; i < 5; i++) {
            w.feed('x');
        }
        w.improve(6);
        int[] due = {3, 2, 1, 4, 5, 6};
        for (int what = 0; what < 6; what++) {
            Check.due("count(" + what + ")", w.count(what), due[what]);
        }
        Check.due("above", w.count(6), BAD);
        Check.due("below", w.count(-1), BAD);
    }

    private static void promise43Tape() {
        WindowRounds w = new WindowRounds();
        Check.due("no such TAPE", w.tape(6, 0, 1), NONE);
        Check.due("no such TAPE", w.tape(-1, -1, 1), NONE);
        Check.due("no such sort", w.tape(0, 5, 1), BAD);
        Check.due("no such sort", w.tape(0, -2, 1), BAD);
        Check.due("BAD is ahead of SIZE", w.tape(0, 5, -1), BAD);
        Check.due("too much", w.tape(0, 0, 61), BAD);
        Check.due("below 0", w.tape(0, 0, -1), SIZE);
        Check.due("far below 0", w.tape(0, 0, Integer.MIN_VALUE), SIZE);
        Check.due("still nothing", w.item(0, 0, 1), NOTHING);
        for (int t = 0; t < 6; t++) {
            Check.due("60 of them", w.tape(t, t % 5, 60), 1);
            Check.due("the last one is 0", w.peek(t, 59), 0);
            Check.due("no place 60", w.peek(t, 60), NO);
            w.item(t, 59, 1);
        }
        Check.due("none of them", w.tape(2, 3, 0), 1);
        Check.due("but not nothing", w.item(2, 0, 1), PLACE);
        Check.due("its neighbour", w.peek(1, 59), 1);
        Check.due("its neighbour", w.peek(3, 59), 1);
        Check.due("refused", w.tape(3, 0, 61), BAD);
        Check.due("is as it was", w.peek(3, 59), 1);
        w.tape(3, 3, 60);
        Check.due("all 0 again", w.peek(3, 59), 0);
        Check.due("nothing, whatever n", w.tape(3, -1, 99), 1);
        Check.due("nothing, whatever n", w.tape(4, -1, -99), 1);
        Check.due("nothing", w.item(3, 0, 1), NOTHING);
        w.tape(3, 3, 60);
        Check.due("all 0 behind nothing", w.peek(3, 59), 0);
    }

    private static void promise44Item() {
        WindowRounds w = new WindowRounds();
        Check.due("no such TAPE", w.item(6, 0, 1), NONE);
        Check.due("no such TAPE", w.item(-1, 0, 1), NONE);
        Check.due("nothing there", w.item(0, 99, 1), NOTHING);
        long v = 0x123456789abcdef0L;
        long[] cut = {(byte) 0xf0, (short) 0xdef0, 0x9abcdef0, v, 1};
        long[] least = {0, 0, 0, Long.MIN_VALUE, 1};
        for (int sort = 0; sort < 5; sort++) {
            w.tape(sort, sort, 3);
            Check.due("below", w.item(sort, -1, v), PLACE);
            Check.due("above", w.item(sort, 3, v), PLACE);
            Check.due("far above", w.item(sort, Integer.MAX_VALUE, v), PLACE);
            Check.due("becomes", w.item(sort, 1, v), 1);
            Check.due("its lowest bits", w.peek(sort, 1), cut[sort]);
            Check.due("not the one ahead", w.peek(sort, 0), 0);
            Check.due("not the one behind", w.peek(sort, 2), 0);
            w.item(sort, 1, Long.MIN_VALUE);
            Check.due("of the least one", w.peek(sort, 1), least[sort]);
            w.item(sort, 1, -1);
            Check.due("of -1", w.peek(sort, 1), sort == 4 ? 1 : -1);
            w.item(sort, 1, 0);
            Check.due("of 0", w.peek(sort, 1), 0);
        }
        w.item(0, 0, 127);
        w.item(0, 1, 128);
        Check.due("127 fits a byte", w.peek(0, 0), 127);
        Check.due("128 doesn't", w.peek(0, 1), -128);
    }

    private static void promise45Peek() {
        WindowRounds w = new WindowRounds();
        Check.due("no such TAPE", w.peek(6, 0), NO);
        Check.due("no such TAPE", w.peek(-1, 0), NO);
        Check.due("nothing there", w.peek(0, 0), NO);
        w.tape(0, 3, 2);
        w.item(0, 0, 5);
        w.item(0, 1, Long.MAX_VALUE);
        Check.due("5", w.peek(0, 0), 5);
        Check.due("the most", w.peek(0, 1), Long.MAX_VALUE);
        Check.due("above", w.peek(0, 2), NO);
        Check.due("below", w.peek(0, -1), NO);
        Check.due("far above", w.peek(0, Integer.MAX_VALUE), NO);
        Check.due("far below", w.peek(0, Integer.MIN_VALUE), NO);
        w.tape(0, -1, 0);
        Check.due("nothing any more", w.peek(0, 0), NO);
    }

    private static void fillTape(WindowRounds w, int tape, int sort, int n) {
        w.tape(tape, sort, n);
        for (int i = 0; i < n; i++) {
            w.item(tape, i, tape * 10 + i);
        }
    }

    private static void items(WindowRounds w, int tape, int... due) {
        for (int i = 0; i < due.length; i++) {
            Check.due("peek(" + tape + ", " + i + ")", w.peek(tape, i), due[i]);
        }
        Check.due("its end", w.peek(tape, due.length), NO);
    }

    private static void promise46Slide() {
        WindowRounds w = new WindowRounds();
        Check.due("no such TAPE", w.slide(6, 0, 0, 0, 0), NONE);
        Check.due("no such TAPE", w.slide(0, 0, 6, 0, 0), NONE);
        Check.due("no such TAPE", w.slide(-1, 0, 0, 0, 0), NONE);
        Check.due("no such TAPE", w.slide(0, 0, -1, 0, 0), NONE);
        fillTape(w, 1, 2, 5);
        fillTape(w, 2, 2, 4);
        fillTape(w, 3, 3, 4);
        Check.due("nothing there", w.slide(0, 0, 1, 0, 1), NOTHING);
        Check.due("nothing there", w.slide(1, 0, 0, 0, 1), NOTHING);
        Check.due("NOTHING is ahead of PLACE", w.slide(1, -1, 0, 0, 1), NOTHING);
        Check.due("unlike sorts", w.slide(1, 0, 3, 0, 1), CAST);
        Check.due("CAST is ahead of PLACE", w.slide(1, 0, 3, 0, -1), CAST);
        int[][] bad = {{-1, 0, 1}, {0, -1, 1}, {0, 0, -1}, {0, 0, 5}, {2, 0, 4}, {5, 0, 1}, {6, 0, 0}, {0, 5, 0},
            {0, 3, 2}, {Integer.MAX_VALUE, 0, 1}, {0, Integer.MAX_VALUE, 1}, {1, 1, Integer.MAX_VALUE},
            {Integer.MIN_VALUE, 0, 1}, {0, 0, Integer.MIN_VALUE}};
        for (int[] b : bad) {
            Check.due("slide(1, " + b[0] + ", 2, " + b[1] + ", " + b[2] + ")", w.slide(1, b[0], 2, b[1], b[2]), PLACE);
        }
        items(w, 2, 20, 21, 22, 23);
        Check.due("none at both ends", w.slide(1, 5, 2, 4, 0), 0);
        Check.due("two", w.slide(1, 3, 2, 1, 2), 2);
        items(w, 2, 20, 13, 14, 23);
        items(w, 1, 10, 11, 12, 13, 14);
        Check.due("all", w.slide(2, 0, 1, 1, 4), 4);
        items(w, 1, 10, 20, 13, 14, 23);
        items(w, 3, 30, 31, 32, 33);
    }

    private static void promise46SlideWithin() {
        WindowRounds w = new WindowRounds();
        fillTape(w, 5, 0, 6);
        Check.due("later", w.slide(5, 0, 5, 2, 4), 4);
        items(w, 5, 50, 51, 50, 51, 52, 53);
        fillTape(w, 5, 0, 6);
        Check.due("earlier", w.slide(5, 2, 5, 1, 4), 4);
        items(w, 5, 50, 52, 53, 54, 55, 55);
        Check.due("where it is", w.slide(5, 0, 5, 0, 6), 6);
        items(w, 5, 50, 52, 53, 54, 55, 55);
    }
}
