/** Promises 9 to 18: rules and prices, what is put, taken, FILLED and improved, and what is told of it. */
public final class RoundsTest {
    private static final int NONE = -1, BAD = -2, STATE = -3, NIL = -5;

    private RoundsTest() {
    }

    public static void main(String[] args) {
        promise9Rule();
        promise9RuleOfARound();
        promise10Price();
        promise10PriceHolds();
        promise11Put();
        promise11PutByRoom();
        promise12Take();
        promise13Clear();
        promise14FillByRegret();
        promise14FillOfLike();
        promise14FillByRoom();
        promise14FillAmongOthers();
        promise15Improve();
        promise15ImproveByFixed();
        promise16Round();
        promise17At();
        promise18Told();
        Check.end("RoundsTest");
    }

    private static void promise9Rule() {
        WindowRounds w = new WindowRounds();
        int[] tops = {60, 999, 1999};
        int[] was = {20, 0, 1999};
        for (int r = 0; r < 4; r++) {
            for (int what = 0; what < 3; what++) {
                Check.due("below", w.rule(r, what, -1), BAD);
                Check.due("above", w.rule(r, what, tops[what] + 1), BAD);
                Check.due("was", w.rule(r, what, 0), was[what]);
                Check.due("was 0", w.rule(r, what, tops[what]), 0);
                Check.due("is", w.round(r, what), tops[what]);
            }
            Check.due("no such what", w.rule(r, 3, 0), NONE);
            Check.due("no such what", w.rule(r, -1, 0), NONE);
        }
        Check.due("no such ROUND", w.rule(4, 0, 0), NONE);
        Check.due("no such ROUND", w.rule(-1, 0, 0), NONE);
        Check.due("NONE is ahead of BAD", w.rule(4, 0, 61), NONE);
        Check.due("one without STOPS may be home ahead of leaving", w.rule(0, 2, 0), 1999);
    }

    /** One STOP at 42,32, load 5, till 30, 3 long, in ROUND 1: 10, 13, 23. */
    private static WindowRounds ofOne() {
        WindowRounds w = new WindowRounds();
        w.stop(42, 32, 5, 0, 30, 3);
        Check.due("put", w.put(0, 1, 0), 20);
        return w;
    }

    private static void promise9RuleOfARound() {
        WindowRounds w = ofOne();
        Check.due("ROOM below LOADS", w.rule(1, 0, 4), STATE);
        Check.due("ROOM as LOADS", w.rule(1, 0, 5), 20);
        Check.due("HOME too early", w.rule(1, 2, 22), STATE);
        Check.due("HOME just so", w.rule(1, 2, 23), 1999);
        Check.due("LEAVE too late", w.rule(1, 1, 1), STATE);
        Check.due("as it was", w.round(1, 1), 0);
        Check.due("nor could it leave later", w.round(1, 9), 0);
        Check.due("HOME later", w.rule(1, 2, 100), 23);
        Check.due("it could leave later then", w.round(1, 9), 20);
        Check.due("LEAVE just so", w.rule(1, 1, 20), 0);
        Check.due("LEAVE too late for the STOP", w.rule(1, 1, 21), STATE);
        Check.due("another ROUND is as it likes", w.rule(0, 0, 0), 20);
    }

    private static void promise10Price() {
        WindowRounds w = new WindowRounds();
        Check.due("no such what", w.price(2, 0), NONE);
        Check.due("no such what", w.price(-1, 0), NONE);
        Check.due("no such METRIC", w.price(0, 3), BAD);
        Check.due("no such METRIC", w.price(0, -1), BAD);
        Check.due("FIXED above", w.price(1, 100), BAD);
        Check.due("FIXED below", w.price(1, -1), BAD);
        Check.due("FIXED", w.price(1, 99), 0);
        Check.due("METRIC", w.price(0, 2), 0);
        Check.due("METRIC was", w.price(0, 1), 2);
        Check.due("FIXED was", w.price(1, 7), 99);
        w.stop(36, 35, 1, 0, 999, 0);
        Check.due("by KING, and FIXED", w.put(0, 0, 0), 15);
        Check.due("COST", w.told(0), 15);
        w.price(0, 0);
        Check.due("by STREETS", w.told(0), 21);
        w.price(0, 2);
        Check.due("by BOTH", w.told(0), 29);
        w.price(1, 0);
        Check.due("nothing FIXED", w.told(0), 22);
    }

    private static void promise10PriceHolds() {
        WindowRounds w = new WindowRounds();
        w.stop(36, 35, 1, 0, 7, 0);
        w.put(0, 3, 0);
        Check.due("too far by BOTH", w.price(0, 2), STATE);
        Check.due("as it was", w.told(0), 14);
        Check.due("near by KING", w.price(0, 1), 0);
        Check.due("as it is", w.told(0), 8);
        Check.due("back to STREETS", w.price(0, 0), 1);
        Check.due("FIXED never matters", w.price(1, 99), 0);
    }

    private static void promise11Put() {
        WindowRounds w = new WindowRounds();
        Check.due("no STOP", w.put(0, 0, 0), NONE);
        w.stop(42, 32, 1, 0, 20, 0);
        w.stop(52, 32, 1, 0, 20, 0);
        w.stop(32, 22, 1, 0, 999, 0);
        Check.due("no such ROUND", w.put(0, 4, 0), NONE);
        Check.due("no such ROUND", w.put(0, -1, 0), NONE);
        Check.due("NONE is ahead of BAD", w.put(0, 4, 9), NONE);
        Check.due("no such place", w.put(0, 0, 1), BAD);
        Check.due("no such place", w.put(0, 0, -1), BAD);
        w.price(1, 30);
        Check.due("with FIXED, the first one", w.put(0, 0, 0), 50);
        Check.due("it is in a ROUND", w.put(0, 0, 0), STATE);
        Check.due("STATE is ahead of BAD", w.put(0, 1, 9), STATE);
        Check.due("it would make the other late", w.put(1, 0, 0), STATE);
        Check.due("nothing is put", w.of(1, 6), NIL);
        Check.due("behind the other", w.put(1, 0, 1), 20);
        Check.due("both would be late", w.put(2, 0, 0), STATE);
        Check.due("between, the second would be", w.put(2, 0, 1), STATE);
        Check.due("no place 3", w.put(2, 0, 3), BAD);
        Check.due("behind both", w.put(2, 0, 2), 20);
        Check.row(w, 0, 0, 1, 2);
        Check.row(w, 1);
    }

    private static void promise11PutByRoom() {
        WindowRounds w = new WindowRounds();
        w.stop(33, 32, 12, 0, 999, 0);
        w.stop(34, 32, 8, 0, 999, 0);
        w.stop(35, 32, 1, 0, 999, 0);
        w.stop(36, 32, 0, 0, 999, 5);
        w.put(0, 2, 0);
        Check.due("LOADS are as much as ROOM", w.put(1, 2, 1), 2);
        Check.due("LOADS are more", w.put(2, 2, 2), STATE);
        w.rule(2, 2, 13);
        Check.due("back in time", w.put(3, 2, 2), 4);
        w.take(3);
        w.rule(2, 2, 12);
        Check.due("back too late", w.put(3, 2, 2), STATE);
    }

    private static void promise12Take() {
        WindowRounds w = new WindowRounds();
        Check.due("no STOP", w.take(0), NONE);
        w.stop(42, 32, 1, 0, 999, 0);
        w.stop(32, 22, 1, 0, 999, 0);
        w.price(1, 30);
        Check.due("in no ROUND", w.take(0), STATE);
        w.put(0, 0, 0);
        w.put(1, 0, 1);
        w.lock(0, true);
        Check.due("LOCKED", w.take(0), STATE);
        Check.due("the other one", w.take(1), 20);
        Check.due("is in no ROUND", w.of(1, 6), NIL);
        Check.due("nor twice", w.take(1), STATE);
        w.lock(0, false);
        Check.due("the last one, and FIXED", w.take(0), 50);
        Check.due("nothing costs", w.told(0), 0);
        Check.due("no such STOP", w.take(2), NONE);
        Check.due("no such STOP", w.take(-1), NONE);
    }

    private static void promise13Clear() {
        WindowRounds w = new WindowRounds();
        for (int s = 0; s < 6; s++) {
            w.stop(33 + s, 32, 1, 0, 999, 0);
            w.put(s, s < 5 ? 0 : 1, s % 5);
        }
        Check.due("no such ROUND", w.clear(4), NONE);
        Check.due("no such ROUND", w.clear(-1), NONE);
        Check.due("none in it", w.clear(3), 0);
        w.lock(1, true);
        w.lock(4, true);
        Check.due("three aren't LOCKED", w.clear(0), 3);
        Check.row(w, 0, 1, 4);
        Check.row(w, 1, 5);
        Check.due("the place of a LOCKED one", w.of(4, 7), 1);
        Check.due("in no ROUND", w.of(0, 6), NIL);
        Check.due("two stay", w.clear(0), 0);
        w.lock(1, false);
        w.lock(4, false);
        Check.due("all go", w.clear(0), 2);
        Check.row(w, 0);
    }

    /** Only ROUND 0 has room for both; 1 has no second ROUND, so that it comes first though it ADDS more. */
    private static void promise14FillByRegret() {
        WindowRounds w = new WindowRounds();
        w.stop(34, 32, 2, 0, 999, 0);
        w.stop(42, 32, 5, 0, 999, 0);
        w.stop(43, 32, 6, 0, 999, 0);
        w.rule(0, 0, 6);
        w.rule(1, 0, 2);
        w.rule(2, 0, 0);
        w.rule(3, 0, 0);
        Check.due("two find room", w.fill(), 2);
        Check.row(w, 0, 1);
        Check.row(w, 1, 0);
        Check.due("2 finds none", w.of(2, 6), NIL);
        Check.due("nothing more", w.fill(), 0);
        Check.due("two fills", w.count(5), 2);
    }

    /** All ADD the same in each ROUND: the one that ADDS least goes first, into ROUND 0, and the next by number. */
    private static void promise14FillOfLike() {
        WindowRounds w = new WindowRounds();
        w.stop(32, 36, 20, 0, 999, 0);
        w.stop(32, 28, 20, 0, 999, 0);
        w.stop(33, 32, 20, 0, 999, 0);
        Check.due("all", w.fill(), 3);
        Check.row(w, 0, 2);
        Check.row(w, 1, 0);
        Check.row(w, 2, 1);
        Check.row(w, 3);
    }

    private static void promise14FillByRoom() {
        WindowRounds w = new WindowRounds();
        for (int s = 0; s < 5; s++) {
            w.stop(40, 32, 11, 0, 999, 0);
        }
        Check.due("one a ROUND", w.fill(), 4);
        for (int r = 0; r < 4; r++) {
            Check.row(w, r, r);
        }
        Check.due("the last one stays", w.told(2), 1);
    }

    /** A far one in ROUND 1: the near ones go there for nothing, and where it is first of like places. */
    private static void promise14FillAmongOthers() {
        WindowRounds w = new WindowRounds();
        w.stop(62, 32, 1, 0, 999, 0);
        w.put(0, 1, 0);
        w.lock(0, true);
        w.stop(42, 32, 1, 0, 999, 0);
        w.stop(52, 32, 1, 0, 999, 0);
        Check.due("both", w.fill(), 2);
        Check.row(w, 1, 1, 2, 0);
        Check.due("for nothing", w.told(0), 60);
    }

    private static void promise15Improve() {
        WindowRounds w = Check.onALine();
        Check.due("n below", w.improve(0), BAD);
        Check.due("n above", w.improve(21), BAD);
        Check.due("n far below", w.improve(Integer.MIN_VALUE), BAD);
        Check.due("BAD counts nothing", w.count(5), 0);
        Check.due("COST", w.told(0), 96);
        Check.due("once", w.improve(5), 1);
        Check.row(w, 0, 0, 1, 2);
        Check.row(w, 1, 3);
        Check.due("COST is less", w.told(0), 80);
        Check.due("no more", w.improve(20), 0);
        Check.due("all are counted", w.count(5), 25);
    }

    private static void promise15ImproveByFixed() {
        WindowRounds w = Check.onALine();
        w.price(1, 10);
        Check.due("just once", w.improve(1), 1);
        Check.row(w, 0, 0, 1, 2);
        Check.due("twice", w.improve(1), 1);
        Check.row(w, 0, 3, 0, 1, 2);
        Check.row(w, 1);
        Check.due("no more", w.improve(1), 0);
        Check.due("COST", w.told(0), 90);
    }

    private static void promise16Round() {
        WindowRounds w = new WindowRounds();
        w.stop(40, 32, 3, 50, 100, 5);
        w.stop(40, 40, 4, 0, 70, 2);
        w.put(0, 2, 0);
        w.put(1, 2, 1);
        int[] due = {20, 0, 1999, 2, 7, 32, 81, 42, 0, 49};
        for (int what = 0; what < 10; what++) {
            Check.due("round(2, " + what + ")", w.round(2, what), due[what]);
        }
        w.rule(1, 1, 17);
        int[] empty = {20, 17, 1999, 0, 0, 0, 17, 0, NIL, NIL};
        for (int what = 0; what < 10; what++) {
            Check.due("round(1, " + what + ")", w.round(1, what), empty[what]);
        }
        w.set(0, 4, 56);
        Check.due("the first one is TIGHT", w.round(2, 8), 0);
        w.set(0, 4, 100);
        w.set(1, 4, 63);
        Check.due("both have no SLACK: the first is told", w.round(2, 8), 0);
        w.set(0, 3, 40);
        w.set(0, 5, 0);
        w.set(0, 4, 999);
        Check.due("SLACK of the first by the second", w.of(0, 11), 15);
        Check.due("how much later", w.round(2, 9), 47);
        Check.due("no such what", w.round(0, 10), NONE);
        Check.due("no such what", w.round(0, -1), NONE);
        Check.due("no such ROUND", w.round(4, 0), NONE);
        Check.due("no such ROUND", w.round(-1, 0), NONE);
        promise16TightBehind();
    }

    private static void promise16TightBehind() {
        WindowRounds w = new WindowRounds();
        w.stop(33, 32, 0, 0, 5, 0);
        w.stop(34, 32, 0, 40, 42, 0);
        w.put(0, 0, 0);
        w.put(1, 0, 1);
        Check.due("of the first", w.of(0, 11), 4);
        Check.due("of the second", w.of(1, 11), 2);
        Check.due("the second is TIGHT", w.round(0, 8), 1);
        Check.due("but leaving is bound by the first", w.round(0, 9), 4);
    }

    private static void promise17At() {
        WindowRounds w = Check.onALine();
        Check.row(w, 0, 1, 0, 2);
        Check.row(w, 1, 3);
        Check.row(w, 2);
        Check.due("below", w.at(0, -1), BAD);
        Check.due("far above", w.at(0, Integer.MAX_VALUE), BAD);
        Check.due("far below", w.at(1, Integer.MIN_VALUE), BAD);
        Check.due("no such ROUND", w.at(4, 0), NONE);
        Check.due("no such ROUND", w.at(-1, 9), NONE);
    }

    private static void promise18Told() {
        WindowRounds w = Check.onALine();
        w.stop(1, 1, 1, 1, 999, 1);
        w.stop(1, 1, 1, 1, 999, 1);
        w.price(1, 9);
        w.lock(0, true);
        w.lock(3, true);
        w.lock(2, true);
        w.set(1, 3, 100);
        w.set(3, 3, 50);
        int[] due = {114, 96, 2, 3, 2, 84 + 34};
        for (int what = 0; what < 6; what++) {
            Check.due("told(" + what + ")", w.told(what), due[what]);
        }
        Check.due("no such what", w.told(6), NONE);
        Check.due("no such what", w.told(-1), NONE);
    }
}
