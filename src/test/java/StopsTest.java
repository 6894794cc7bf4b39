/** Promises 1 to 8: a new object, STOPS, THE TEXT, what they are, locks, THE DEPOT. */
public final class StopsTest {
    private static final int NONE = -1, BAD = -2, STATE = -3, FULL = -4, NIL = -5;

    private StopsTest() {
    }

    public static void main(String[] args) {
        promise1New();
        promise2Stop();
        promise3Feed();
        promise4Read();
        promise4Facts();
        promise4Room();
        promise5Set();
        promise5SetOfARound();
        promise6Of();
        promise6OfNone();
        promise6SlackByHome();
        promise7Lock();
        promise8Depot();
        Check.end("StopsTest");
    }

    private static void promise1New() {
        WindowRounds w = new WindowRounds();
        for (int what = 0; what < 6; what++) {
            Check.due("count(" + what + ") of a new one", w.count(what), 0);
            Check.due("told(" + what + ") of a new one", w.told(what), 0);
        }
        for (int r = 0; r < 4; r++) {
            Check.row(w, r);
            Check.due("ROOM", w.round(r, 0), 20);
            Check.due("LEAVE", w.round(r, 1), 0);
            Check.due("HOME", w.round(r, 2), 1999);
        }
        Check.due("no STOP 0", w.of(0, 0), NONE);
        Check.due("nothing is due", w.due(0), BAD);
        Check.due("no image", w.undo(), STATE);
        Check.due("nothing was told", w.taken(0), -11);
        Check.due("METRIC", w.price(0, 0), 0);
        Check.due("FIXED", w.price(1, 0), 0);
        Check.due("THE DEPOT", w.depot(32, 32), 0);
        for (int t = 0; t < 6; t++) {
            Check.due("tape " + t, w.item(t, 0, 1), -11);
        }
    }

    private static void promise2Stop() {
        WindowRounds w = new WindowRounds();
        int[][] bad = {{-1, 0, 0, 0, 0, 0}, {64, 0, 0, 0, 0, 0}, {0, -1, 0, 0, 0, 0}, {0, 64, 0, 0, 0, 0},
            {0, 0, -1, 0, 0, 0}, {0, 0, 21, 0, 0, 0}, {0, 0, 0, -1, 0, 0}, {0, 0, 0, 0, -1, 0},
            {0, 0, 0, 1000, 1000, 0}, {0, 0, 0, 0, 1000, 0}, {0, 0, 0, 6, 5, 0}, {0, 0, 0, 0, 0, -1},
            {0, 0, 0, 0, 0, 31}, {0, 0, 0, Integer.MIN_VALUE, Integer.MAX_VALUE, 0}};
        for (int[] b : bad) {
            Check.due("stop(" + java.util.Arrays.toString(b) + ")", w.stop(b[0], b[1], b[2], b[3], b[4], b[5]), BAD);
        }
        Check.due("BAD brings none", w.count(0), 0);
        Check.due("the least of all", w.stop(0, 0, 0, 0, 0, 0), 0);
        Check.due("the most of all", w.stop(63, 63, 20, 999, 999, 30), 1);
        Check.due("FIRST is LAST", w.stop(1, 2, 3, 5, 5, 4), 2);
        Check.due("it is in no ROUND", w.of(2, 6), NIL);
        for (int i = 3; i < 16; i++) {
            Check.due("stop " + i, w.stop(i, i, 0, 0, 9, 0), i);
        }
        Check.due("the 17th", w.stop(1, 1, 1, 1, 1, 1), FULL);
        Check.due("BAD is ahead of FULL", w.stop(64, 1, 1, 1, 1, 1), BAD);
        Check.due("16 STOPS", w.count(0), 16);
    }

    private static void promise3Feed() {
        WindowRounds w = new WindowRounds();
        Check.due("feed(-1)", w.feed(-1), BAD);
        Check.due("feed(128)", w.feed(128), BAD);
        Check.due("feed(0)", w.feed(0), 1);
        Check.due("feed(127)", w.feed(127), 2);
        for (int i = 3; i <= 100; i++) {
            Check.due("sign " + i, w.feed('1'), i);
        }
        Check.due("sign 101", w.feed('1'), FULL);
        Check.due("BAD is ahead of FULL", w.feed(128), BAD);
        Check.due("100 bytes", w.count(4), 100);
        Check.due("sign 0 begins none", w.read(), -10);
        Check.due("it is empty by a FAULT, too", w.count(4), 0);
        Check.due("room again", w.feed('1'), 1);
    }

    private static void promise4Read() {
        String[] texts = {"", "1", "1,", "1,2", "64,1", "63,63", "1,64", "70,1", "7,8;", "a", "1;2", " 1,2", "1, 2",
            "1,2 ", "123,4", "1,123", "641,1", "1,2*", "1,2*20", "1,2*21", "1,2*99", "1,2*9", "1,2*205", "1,2*x",
            "1,2*0", "1,2@", "1,2@5", "1,2@5-", "1,2@5-5", "1,2@5-4", "1,2@500-4", "1,2@500-49", "1,2@500-499",
            "1,2@500-4999", "1,2@50-499", "1,2@50-49;1,1", "1,2@50-4x", "1,2@1000-1", "1,2@0-1000", "1,2@999-999",
            "1,2@-5", "1,2@5+1", "1,2+30", "1,2+31", "1,2+", "1,2+0", "1,2+5*3", "1,2@1-2*3", "1,2+5@1-2",
            "1,2*3*4", "1,2+3+4", "1,2@1-2@1-2", "1,2*3;4,5", "1,2;;3,4", ";1,2", "1,,2", ",1", "1,2;3", "1,2;64,1",
            "1,1;2,2;3,3;4,4;5,5;6,6", "1,1;2,2;3,3;4,4;5,5;6,6;", "1,1;2,2;3,3;4,4;5,5;6,6;7,7",
            "1,1;2,2;3,3;4,4;5,5;6,6x", "00,00*00@000-000+00", "1-2", "*", "/,1", ":,1",
            "001,1", "1,001", "1,2*005", "1,2@0005-9", "1,2@0-0009", "1,2+005"};
        int[] due = {-10, -11, -12, 1, -11, 1, -13, -11, -14, -10, -11, -10, -12,
            -13, -12, -14, -11, -14, 1, -15, -15, 1, -16, -14,
            1, -14, -15, -16, 1, -16, -18, -19, -20,
            -20, 1, -18, -17, -17, -19, 1,
            -14, -15, 1, -15, -14, 1, -15, -17, -15,
            -15, -15, -17, 2, -14, -10, -12, -10, -15, -15,
            6, -33, -33,
            -33, 1, -11, -10, -10, -10,
            -12, -14, -16, -17, -19, -16};
        for (int i = 0; i < texts.length; i++) {
            WindowRounds w = new WindowRounds();
            Check.feed(w, texts[i]);
            Check.due("read of \"" + texts[i] + "\"", w.read(), due[i]);
            Check.due("STOPS by \"" + texts[i] + "\"", w.count(0), Math.max(due[i], 0));
            Check.due("bytes behind \"" + texts[i] + "\"", w.count(4), 0);
        }
    }

    private static void promise4Facts() {
        WindowRounds w = new WindowRounds();
        Check.feed(w, "1,2;03,4*5@6-7+8;60,61+30;62,63@08-123;9,10*20");
        Check.due("all come", w.read(), 5);
        int[][] facts = {{1, 2, 1, 0, 999, 0}, {3, 4, 5, 6, 7, 8}, {60, 61, 1, 0, 999, 30},
            {62, 63, 1, 8, 123, 0}, {9, 10, 20, 0, 999, 0}};
        for (int s = 0; s < facts.length; s++) {
            for (int what = 0; what < 6; what++) {
                Check.due("of(" + s + ", " + what + ")", w.of(s, what), facts[s][what]);
            }
            Check.due("in no ROUND", w.of(s, 6), NIL);
        }
    }

    private static void promise4Room() {
        WindowRounds w = new WindowRounds();
        for (int i = 0; i < 14; i++) {
            w.stop(1, 1, 1, 1, 1, 1);
        }
        Check.feed(w, "1,2;3,4;5,6");
        Check.due("two have room", w.read(), 2);
        Check.due("the last one", w.of(15, 0), 3);
        Check.feed(w, "1,2");
        Check.due("none has", w.read(), 0);
        Check.due("16 STOPS", w.count(0), 16);
    }

    private static void promise5Set() {
        WindowRounds w = new WindowRounds();
        Check.due("no STOP", w.set(0, 0, 0), NONE);
        w.stop(1, 2, 3, 4, 500, 6);
        Check.due("no such what", w.set(0, 6, 0), NONE);
        Check.due("no such what", w.set(0, -1, 0), NONE);
        Check.due("no such stop", w.set(-1, 0, 0), NONE);
        Check.due("NONE is ahead of BAD", w.set(1, 0, 64), NONE);
        int[] tops = {63, 63, 20, 500, 999, 30};
        int[] was = {1, 2, 3, 4, 500, 6};
        for (int what = 0; what < 6; what++) {
            Check.due("above", w.set(0, what, tops[what] + 1), BAD);
            Check.due("below", w.set(0, what, -1), BAD);
            Check.due("far below", w.set(0, what, Integer.MIN_VALUE), BAD);
            Check.due("as it was", w.of(0, what), was[what]);
            Check.due("the most", w.set(0, what, tops[what]), was[what]);
            Check.due("is the most", w.of(0, what), tops[what]);
        }
        Check.due("LAST below FIRST", w.set(0, 4, 499), BAD);
        Check.due("LAST is FIRST", w.set(0, 4, 500), 999);
        Check.due("FIRST above LAST", w.set(0, 3, 501), BAD);
        Check.due("FIRST 0", w.set(0, 3, 0), 500);
        Check.due("LAST 0", w.set(0, 4, 0), 500);
    }

    /** A at 40,32 from 50 to 100, 5 long; B at 40,40 till 70, 2 long: 8, 50, 63, 81. */
    private static WindowRounds ofTwo() {
        WindowRounds w = new WindowRounds();
        w.stop(40, 32, 3, 50, 100, 5);
        w.stop(40, 40, 4, 0, 70, 2);
        w.stop(1, 1, 1, 1, 1, 1);
        Check.due("A", w.put(0, 0, 0), 16);
        Check.due("B", w.put(1, 0, 1), 16);
        return w;
    }

    private static void promise5SetOfARound() {
        WindowRounds w = ofTwo();
        Check.due("B would be late", w.set(1, 4, 62), STATE);
        Check.due("as it was", w.of(1, 4), 70);
        Check.due("B is in time", w.set(1, 4, 63), 70);
        Check.due("A later is too late for B", w.set(0, 3, 51), STATE);
        Check.due("A stays too long for B", w.set(0, 5, 6), STATE);
        Check.due("A is too far from B", w.set(0, 0, 41), STATE);
        Check.due("as far as it was", w.round(0, 5), 32);
        Check.due("LOADS are too much", w.set(0, 2, 17), STATE);
        Check.due("LOADS fill the ROOM", w.set(0, 2, 16), 3);
        Check.due("BAD is ahead of STATE", w.set(0, 3, 101), BAD);
        Check.due("what is in no ROUND may be what it likes", w.set(2, 2, 20), 1);
    }

    private static void promise6Of() {
        WindowRounds w = ofTwo();
        int[][] due = {{40, 32, 3, 50, 100, 5, 0, 0, 0, 8, 50, 7}, {40, 40, 4, 0, 70, 2, 0, 1, 0, 63, 63, 7},
            {1, 1, 1, 1, 1, 1, NIL, NIL, 0, NIL, NIL, NIL}};
        for (int s = 0; s < 3; s++) {
            for (int what = 0; what < 12; what++) {
                Check.due("of(" + s + ", " + what + ")", w.of(s, what), due[s][what]);
            }
        }
        w.lock(1, true);
        Check.due("is LOCKED", w.of(1, 8), 1);
        Check.due("isn't LOCKED", w.of(0, 8), 0);
        w.rule(0, 1, 49);
        Check.due("comes later", w.of(0, 9), 57);
        Check.due("begins as it comes", w.of(0, 10), 57);
        Check.due("has no SLACK any more", w.of(0, 11), 0);
        Check.due("nor has B", w.of(1, 11), 0);
    }

    private static void promise6OfNone() {
        WindowRounds w = ofTwo();
        Check.due("no such what", w.of(0, 12), NONE);
        Check.due("no such what", w.of(0, -1), NONE);
        Check.due("no such STOP", w.of(3, 0), NONE);
        Check.due("no such STOP", w.of(-1, 0), NONE);
        Check.due("no such STOP", w.of(Integer.MAX_VALUE, 0), NONE);
        Check.due("no such STOP", w.of(16, 0), NONE);
    }

    private static void promise6SlackByHome() {
        WindowRounds w = ofTwo();
        w.rule(0, 2, 85);
        Check.due("HOME leaves B 4", w.of(1, 11), 4);
        Check.due("and A by B", w.of(0, 11), 4);
        w.set(0, 4, 52);
        Check.due("A's own LAST", w.of(0, 11), 2);
        Check.due("B as before", w.of(1, 11), 4);
    }

    private static void promise7Lock() {
        WindowRounds w = ofTwo();
        Check.due("no such STOP", w.lock(3, true), NONE);
        Check.due("no such STOP", w.lock(-1, true), NONE);
        Check.due("in no ROUND", w.lock(2, true), STATE);
        Check.due("in no ROUND", w.lock(2, false), STATE);
        Check.due("wasn't", w.lock(0, true), 0);
        Check.due("was", w.lock(0, true), 1);
        Check.due("one is", w.told(3), 1);
        Check.due("was", w.lock(0, false), 1);
        Check.due("wasn't", w.lock(0, false), 0);
        Check.due("none is", w.told(3), 0);
    }

    private static void promise8Depot() {
        WindowRounds w = ofTwo();
        Check.due("x below", w.depot(-1, 0), BAD);
        Check.due("x above", w.depot(64, 0), BAD);
        Check.due("y below", w.depot(0, -1), BAD);
        Check.due("y above", w.depot(0, 64), BAD);
        w.rule(0, 2, 85);
        Check.due("as far off as HOME lets", w.depot(28, 32), 4);
        Check.due("as it comes from there", w.of(0, 9), 12);
        Check.due("back", w.round(0, 6), 85);
        Check.due("too far for HOME", w.depot(27, 32), STATE);
        Check.due("as it was", w.round(0, 6), 85);
        Check.due("too far the other way", w.depot(40, 63), STATE);
        Check.due("it stays where it is", w.depot(28, 32), 0);
        w.clear(0);
        Check.due("all ROUNDS are empty", w.depot(0, 0), 60);
        Check.due("any place is fine", w.depot(63, 63), 126);
        w.price(0, 1);
        Check.due("by KING", w.depot(3, 0), 63);
    }
}
