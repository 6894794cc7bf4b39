/** Promises 34 to 37, and how WORK runs out for all calls that are counted. */
public final class PlansTest {
    private static final int NONE = -1, BAD = -2, FULL = -4, NIL = -5;

    private PlansTest() {
    }

    public static void main(String[] args) {
        promise34Plan();
        promise35Ends();
        promise35EndsByMoves();
        promise35EndsByLocks();
        promise36Book();
        promise37Looked();
        workRunsOut();
        workOfAPlan();
        Check.end("PlansTest");
    }

    private static void promise34Plan() {
        WindowRounds w = new WindowRounds();
        Check.due("no such what", w.plan(4, 0), NONE);
        Check.due("no such what", w.plan(-2, 0), NONE);
        Check.due("no such STOP", w.plan(2, 0), NONE);
        w.stop(1, 1, 1, 1, 1, 1);
        Check.due("no such STOP", w.plan(2, 1), NONE);
        Check.due("no such STOP", w.plan(2, -1), NONE);
        Check.due("FIXED below", w.plan(3, -1), BAD);
        Check.due("FIXED above", w.plan(3, 100), BAD);
        Check.due("no rows", w.count(2), 0);
        Check.due("n doesn't matter", w.plan(0, -7), 1);
        Check.due("n doesn't matter", w.plan(1, 1000), 2);
        Check.due("STOP 0", w.plan(2, 0), 3);
        Check.due("FIXED", w.plan(3, 0), 4);
        for (int i = 5; i <= 8; i++) {
            Check.due("row " + i, w.plan(3, 99), i);
        }
        Check.due("row 9", w.plan(0, 0), FULL);
        Check.due("NONE is ahead of FULL", w.plan(4, 0), NONE);
        Check.due("BAD is ahead of FULL", w.plan(3, 100), BAD);
        Check.due("8 rows", w.count(2), 8);
        Check.due("empty", w.plan(-1, 1000), 0);
        Check.due("no rows", w.count(2), 0);
        Check.due("the first again", w.plan(0, 0), 1);
    }

    private static void ends(WindowRounds w, int cost, int loose) {
        Check.due("ends(0)", w.ends(0), cost);
        Check.due("ends(1)", w.ends(1), loose);
    }

    private static void promise35Ends() {
        WindowRounds w = new WindowRounds();
        Check.due("no such what", w.ends(2), NONE);
        Check.due("no such what", w.ends(-1), NONE);
        w.stop(42, 32, 1, 0, 999, 0);
        w.stop(32, 42, 1, 0, 999, 0);
        w.put(0, 1, 0);
        ends(w, 20, 1);
        Check.due("no rows, no WORK", w.count(5), 0);
        w.plan(3, 5);
        ends(w, 25, 1);
        w.plan(0, 0);
        ends(w, 45, 0);
        w.plan(2, 0);
        ends(w, 25, 1);
        w.plan(2, 0);
        ends(w, 25, 1);
        w.plan(2, 1);
        ends(w, 0, 2);
        w.plan(3, 1);
        w.plan(0, 0);
        ends(w, 41, 0);
        Check.due("2 by each row", w.count(5), 2 * (1 + 2 + 3 + 4 + 5 + 7));
        Check.due("COST is as it was", w.told(0), 20);
        Check.due("one is loose", w.told(2), 1);
        Check.due("FIXED is as it was", w.price(1, 0), 0);
        Check.row(w, 1, 0);
    }

    private static void promise35EndsByMoves() {
        WindowRounds w = Check.onALine();
        w.plan(1, 0);
        ends(w, 80, 0);
        w.plan(1, 0);
        ends(w, 80, 0);
        w.plan(3, 7);
        ends(w, 94, 0);
        w.plan(1, 0);
        ends(w, 87, 0);
        w.plan(2, 2);
        ends(w, 71, 1);
        Check.row(w, 0, 1, 0, 2);
        Check.due("COST is as it was", w.told(0), 96);
        w.lock(0, true);
        w.lock(1, true);
        w.lock(2, true);
        w.plan(-1, 0);
        w.plan(1, 0);
        ends(w, 96, 0);
    }

    private static void promise35EndsByLocks() {
        WindowRounds w = Check.onALine();
        w.lock(2, true);
        w.plan(2, 2);
        ends(w, 96, 0);
        w.plan(2, 3);
        ends(w, 64, 1);
        w.lock(2, false);
        ends(w, 32, 2);
    }

    private static void promise36Book() {
        WindowRounds w = new WindowRounds();
        Check.due("no such ROUND", w.book(4, 0), NONE);
        Check.due("no such ROUND", w.book(-2, 0), NONE);
        Check.due("NONE is ahead of BAD", w.book(4, 17), NONE);
        Check.due("below", w.book(0, -1), BAD);
        Check.due("above", w.book(0, 17), BAD);
        for (int i = 1; i <= 8; i++) {
            Check.due("row " + i, w.book(i % 4, i * 2), i);
        }
        Check.due("row 9", w.book(0, 0), FULL);
        Check.due("BAD is ahead of FULL", w.book(0, 17), BAD);
        Check.due("8 rows", w.count(3), 8);
        Check.due("empty", w.book(-1, 99), 0);
        Check.due("no rows", w.count(3), 0);
        Check.due("the first again", w.book(3, 0), 1);
    }

    private static void promise37Looked() {
        WindowRounds w = Check.onALine();
        Check.due("no rows", w.looked(), NIL);
        w.book(0, 3);
        w.book(1, 1);
        w.book(2, 0);
        Check.due("all so", w.looked(), NIL);
        w.book(3, 1);
        Check.due("the fourth is otherwise", w.looked(), 3);
        w.take(3);
        Check.due("the second is otherwise, too", w.looked(), 1);
        w.put(3, 3, 0);
        Check.due("just the second", w.looked(), 1);
        w.book(-1, 0);
        w.book(0, 16);
        Check.due("the first", w.looked(), 0);
    }

    private static void workRunsOut() {
        WindowRounds w = Check.onALine();
        for (int i = 0; i < 74; i++) {
            w.improve(20);
        }
        Check.due("1480", w.count(5), 1480);
        Check.due("a best move is told", w.best(0), NIL);
        w.price(1, 9);
        Check.due("a SHIFT empties ROUND 1", w.best(0), 2);
        Check.due("19 are more than 18", w.improve(19), FULL);
        Check.due("and aren't counted", w.count(5), 1482);
        Check.due("18 are not", w.improve(18), 1);
        Check.due("all is spent", w.count(5), 1500);
        Check.due("improve", w.improve(1), FULL);
        Check.due("BAD is ahead", w.improve(0), BAD);
        Check.due("fill", w.fill(), FULL);
        Check.due("best", w.best(0), FULL);
        Check.due("NONE is ahead", w.best(5), NONE);
        Check.due("what was told stays", w.taken(0), 2);
        Check.due("drawn", w.drawn(1, 1), FULL);
        Check.due("BAD is ahead", w.drawn(1, 9), BAD);
        Check.due("chance", w.chance(1, 1, 1, 0), FULL);
        Check.due("BAD is ahead", w.chance(1, 1, 1, 2), BAD);
        Check.due("no rows, no WORK", w.ends(0), w.told(0));
        w.plan(0, 0);
        Check.due("ends", w.ends(0), FULL);
        Check.due("NONE is ahead", w.ends(2), NONE);
        Check.due("not more than all", w.count(5), 1500);
        w.image();
        w.undo();
        Check.due("THE IMAGE doesn't keep WORK", w.count(5), 1500);
    }

    private static void workOfAPlan() {
        WindowRounds w = new WindowRounds();
        for (int i = 0; i < 74; i++) {
            w.improve(20);
        }
        w.improve(13);
        w.plan(0, 0);
        w.plan(0, 0);
        w.plan(0, 0);
        Check.due("3 of 7", w.ends(0), 0);
        w.plan(0, 0);
        w.plan(0, 0);
        Check.due("5 of 4", w.ends(0), FULL);
        Check.due("chance 4 of 4", w.chance(1, 0, 4, 1), 1);
        Check.due("all is spent", w.count(5), 1500);
    }
}
