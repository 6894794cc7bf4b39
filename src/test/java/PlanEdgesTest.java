/** Promises 34 to 37 at their edges, and WORK: what is the last that may be done, and what is refused behind it. */
public final class PlanEdgesTest {
    private static final int NONE = -1, BAD = -2, FULL = -4, NIL = -5;
    private static final int LEAST = Integer.MIN_VALUE, MOST = Integer.MAX_VALUE;
    private static final int[] ANY = {0, 1, -1, 100, 17, LEAST, MOST};

    private PlanEdgesTest() {
    }

    public static void main(String[] args) {
        promise34Refused();
        promise34EightRows();
        promise34Empty();
        promise35Refused();
        promise35RowsInOrder();
        promise35IfThereIsOne();
        promise35IfItIsInOne();
        promise35ChangesNothing();
        promise36Refused();
        promise36EightRows();
        promise36Empty();
        promise37FirstOfRows();
        promise37HowMany();
        workJustSo();
        workFarBelow();
        workOfRefused();
        workOfOthers();
        workIsNotGivenBack();
        Check.end("PlanEdgesTest");
    }

    /** "NONE: what (0 .. 3), stop (by 2); BAD: n (by 3; by 0, 1 n does not matter); FULL: 8": the first that is named. */
    private static void promise34Refused() {
        for (int what : new int[] {-2, 4, LEAST, MOST}) {
            for (int n : new int[] {0, -1, 100}) {
                Twins.refused(Twins::busy, NONE, "plan", what, n);
                Twins.refused(Twins::full, NONE, "plan", what, n);
            }
        }
        for (int s : new int[] {-1, 16, LEAST, MOST}) {
            Twins.refused(Twins::busy, NONE, "plan", 2, s);
            Twins.refused(Twins::full, NONE, "plan", 2, s);
        }
        Twins.refused(Twins::busy, NONE, "plan", 2, 6);
        Twins.refused(Twins::full, FULL, "plan", 2, 15);
        for (int n : new int[] {-1, 100, LEAST, MOST}) {
            Twins.refused(Twins::busy, BAD, "plan", 3, n);
            Twins.refused(Twins::full, BAD, "plan", 3, n);
        }
        for (int n : ANY) {
            Twins.refused(Twins::full, FULL, "plan", 0, n);
            Twins.refused(Twins::full, FULL, "plan", 1, n);
            Calls.due(Twins.busy(), 5, "plan", 0, n);
            Calls.due(Twins.busy(), 5, "plan", 1, n);
        }
        for (int n : new int[] {0, 1, 98, 99}) {
            Twins.refused(Twins::full, FULL, "plan", 3, n);
            Calls.due(Twins.busy(), 5, "plan", 3, n);
        }
        for (int s = 0; s < 6; s++) {
            Calls.due(Twins.busy(), 5, "plan", 2, s);
        }
        Twins.refused(WindowRounds::new, NONE, "plan", 2, 0);
    }

    /** "8 rows at most". */
    private static void promise34EightRows() {
        for (int what = 0; what < 4; what++) {
            WindowRounds w = new WindowRounds();
            w.stop(42, 32, 1, 0, 999, 0);
            for (int many = 1; many <= 8; many++) {
                Calls.due(w, many, "plan", what, 0);
                Calls.due(w, many, "count", 2);
            }
            Calls.due(w, FULL, "plan", what, 0);
            Calls.due(w, FULL, "plan", 3 - what, 0);
            Calls.due(w, 8, "count", 2);
        }
    }

    /** "(what -1: it is empty then, 0, whatever the other is)". */
    private static void promise34Empty() {
        for (int n : ANY) {
            WindowRounds w = Twins.full();
            Calls.due(w, 0, "plan", -1, n);
            Calls.due(w, 0, "count", 2);
            Calls.due(w, 4, "ends", 0);
            Calls.due(w, 0, "count", 5);
            Calls.due(w, 1, "plan", 0, n);
            Calls.due(w, 0, "plan", -1, n);
            Twins.asked(WindowRounds::new, 0, "plan", -1, n);
        }
    }

    /** "NONE: what; FULL: WORK". */
    private static void promise35Refused() {
        for (int what : new int[] {-1, 2, LEAST, MOST}) {
            Twins.refused(Twins::busy, NONE, "ends", what);
            Twins.refused(Twins::full, NONE, "ends", what);
            Twins.refused(PlanEdgesTest::spentWithARow, NONE, "ends", what);
        }
        for (int what = 0; what < 2; what++) {
            Twins.refused(PlanEdgesTest::spentWithARow, FULL, "ends", what);
            Twins.asked(() -> Twins.spent(1500), 0, "ends", what);
            Twins.asked(WindowRounds::new, 0, "ends", what);
        }
    }

    private static WindowRounds spentWithARow() {
        WindowRounds w = Twins.spent(1500);
        w.plan(0, 0);
        return w;
    }

    private static WindowRounds planned(int... rows) {
        WindowRounds w = Check.onALine();
        for (int i = 0; i < rows.length; i += 2) {
            w.plan(rows[i], rows[i + 1]);
        }
        return w;
    }

    private static void ends(int cost, int loose, int... rows) {
        WindowRounds w = planned(rows);
        Calls.due(w, cost, "ends", 0);
        Calls.due(w, loose, "ends", 1);
        Calls.due(w, rows.length, "count", 5);
        Calls.due(w, 96, "told", 0);
        Calls.due(w, 0, "told", 2);
    }

    /** "what goes (0 .. FILLED, 1 THE BEST MOVE .., 2 STOP n is taken .., 3 FIXED is n; 8 rows at most)": as they are told. */
    private static void promise35RowsInOrder() {
        ends(96, 0);
        ends(96, 0, 0, 0);
        ends(80, 0, 1, 0);
        ends(80, 0, 1, 0, 1, 0);
        ends(48 + 32, 1, 2, 1);
        ends(48 + 32, 0, 2, 1, 0, 0);
        ends(96, 0, 3, 0);
        ends(98, 0, 3, 1);
        ends(96 + 198, 0, 3, 99);
        ends(98, 0, 3, 99, 3, 1);
        ends(96 + 50, 0, 3, 50, 1, 0);
        ends(80 + 50, 0, 3, 50, 1, 0, 1, 0);
        ends(80 + 50, 0, 1, 0, 3, 50, 1, 0);
        ends(80 + 100, 0, 1, 0, 3, 50);
        ends(0, 4, 2, 0, 2, 1, 2, 2, 2, 3);
        ends(0, 4, 2, 0, 2, 1, 2, 2, 2, 3, 3, 99);
        ends(80 + 50, 0, 2, 0, 2, 1, 2, 2, 2, 3, 3, 50, 0, 0);
        ends(80 + 99, 0, 2, 0, 2, 1, 2, 2, 2, 3, 3, 50, 0, 0, 1, 0, 3, 99);
        ends(48 + 99, 1, 2, 0, 2, 1, 2, 2, 2, 3, 3, 50, 0, 0, 3, 99, 2, 3);
    }

    /** "1 THE BEST MOVE is done, if there is one". */
    private static void promise35IfThereIsOne() {
        ends(80, 0, 1, 0, 1, 0, 1, 0, 1, 0, 1, 0, 1, 0, 1, 0, 1, 0);
        WindowRounds w = planned(1, 0);
        for (int s = 0; s < 4; s++) {
            w.lock(s, true);
        }
        Calls.due(w, 96, "ends", 0);
        w.lock(1, false);
        Calls.due(w, 80, "ends", 0);
        WindowRounds none = new WindowRounds();
        none.plan(1, 0);
        Calls.due(none, 0, "ends", 0);
        Calls.due(none, 0, "ends", 1);
    }

    /** "2 STOP n is taken from its ROUND, if it is in one and not LOCKED". */
    private static void promise35IfItIsInOne() {
        ends(64, 1, 2, 3, 2, 3);
        WindowRounds w = planned(2, 3);
        w.take(3);
        Calls.due(w, 64, "ends", 0);
        Calls.due(w, 1, "ends", 1);
        w.put(3, 2, 0);
        Calls.due(w, 64, "ends", 0);
        w.lock(3, true);
        Calls.due(w, 96, "ends", 0);
        Calls.due(w, 0, "ends", 1);
        w.lock(3, false);
        w.lock(0, true);
        Calls.due(w, 64, "ends", 0);
    }

    /** All of it is thought: nothing changes but WORK, "ends() as many as its PLAN has rows". */
    private static void promise35ChangesNothing() {
        Twins.thought(Twins::busy, Twins.busy().ends(0), 4, "ends", 0);
        Twins.thought(Twins::busy, Twins.busy().ends(1), 4, "ends", 1);
        Twins.thought(Twins::full, 0, 8, "ends", 0);
        Twins.thought(Twins::full, 16, 8, "ends", 1);
        Twins.thought(() -> planned(2, 0, 2, 1, 0, 0, 1, 0, 3, 8), 96, 5, "ends", 0);
        Twins.thought(() -> planned(2, 0, 2, 1, 0, 0, 1, 0, 3, 8), 0, 5, "ends", 1);
    }

    /** "NONE; BAD; FULL: 8", "ROUNDS, how many STOPS (0 .. 16 ..)": the first that is named. */
    private static void promise36Refused() {
        for (int r : new int[] {-2, 4, LEAST, MOST}) {
            for (int many : new int[] {0, 3, -1, 17}) {
                Twins.refused(Twins::busy, NONE, "book", r, many);
                Twins.refused(Twins::full, NONE, "book", r, many);
            }
        }
        for (int r = 0; r < 4; r++) {
            for (int many : new int[] {-1, 17, LEAST, MOST}) {
                Twins.refused(Twins::busy, BAD, "book", r, many);
                Twins.refused(Twins::full, BAD, "book", r, many);
            }
            for (int many : new int[] {0, 1, 15, 16}) {
                Calls.due(Twins.busy(), 4, "book", r, many);
                Twins.refused(Twins::full, FULL, "book", r, many);
            }
        }
    }

    private static void promise36EightRows() {
        WindowRounds w = new WindowRounds();
        for (int many = 1; many <= 8; many++) {
            Calls.due(w, many, "book", many % 4, 0);
            Calls.due(w, many, "count", 3);
            Calls.due(w, NIL, "looked");
        }
        Calls.due(w, FULL, "book", 0, 5);
        Calls.due(w, 8, "count", 3);
        Calls.due(w, NIL, "looked");
    }

    /** "(round -1: it is empty then, 0, whatever the other is)". */
    private static void promise36Empty() {
        for (int many : ANY) {
            WindowRounds w = Twins.full();
            Calls.due(w, 0, "book", -1, many);
            Calls.due(w, 0, "count", 3);
            w.clear(1);
            Calls.due(w, NIL, "looked");
            Calls.due(w, 1, "book", 1, 1);
            Calls.due(w, 0, "looked");
            Calls.due(w, 0, "book", -1, many);
            Twins.asked(WindowRounds::new, 0, "book", -1, many);
        }
    }

    /** "the number of the first of these rows by which it is otherwise now (-5: none)": each of the 8, from 0. */
    private static void promise37FirstOfRows() {
        for (int first = 0; first <= 8; first++) {
            WindowRounds w = Check.onALine();
            int[] sizes = {3, 1, 0, 0};
            for (int i = 0; i < 8; i++) {
                w.book(i % 4, sizes[i % 4] + (i >= first ? 1 + i % 2 : 0));
            }
            int at = first;
            Twins.asked(() -> booked(at), first < 8 ? first : NIL, "looked");
            Calls.due(w, first < 8 ? first : NIL, "looked");
        }
        Twins.asked(WindowRounds::new, NIL, "looked");
        Twins.asked(Twins::busy, NIL, "looked");
        Twins.asked(Twins::full, NIL, "looked");
    }

    private static WindowRounds booked(int otherwise) {
        WindowRounds w = Twins.busy();
        w.book(-1, 0);
        for (int i = 0; i < 8; i++) {
            w.book(0, i == otherwise ? 2 : 3);
        }
        return w;
    }

    /** "how many STOPS (0 .. 16)": of a ROUND that has 0, and up to all 16. */
    private static void promise37HowMany() {
        WindowRounds w = new WindowRounds();
        for (int size = 0; size <= 16; size++) {
            w.book(-1, 0);
            Calls.due(w, 1, "book", 3, size);
            Calls.due(w, NIL, "looked");
            Calls.due(w, 2, "book", 3, size == 16 ? 15 : size + 1);
            Calls.due(w, 1, "looked");
            Calls.due(w, 3, "book", 3, Math.max(size - 1, 0));
            Calls.due(w, 1, "looked");
            if (size < 16) {
                w.stop(32, 32, 0, 0, 999, 0);
                w.put(size, 3, 0);
                Calls.due(w, 0, "looked");
            }
        }
    }

    private static final Object[][] DEAR = {{"fill", 1}, {"improve", 1, 1}, {"improve", 20, 20}, {"best", 1, 0}, {"best", 1, 4},
        {"drawn", 1, 5, 8}, {"drawn", 1, 5, 0}, {"chance", 1, 5, 8, 1, 0}, {"chance", 4, 5, 8, 4, 1}, {"ends", 1, 0},
        {"ends", 4, 1}, {"ends", 8, 0}};

    private static WindowRounds spent(Object[] dear, int work) {
        WindowRounds w = Twins.spent(work);
        w.stop(42, 32, 1, 0, 999, 0);
        for (int i = 0; dear[0].equals("ends") && i < (int) dear[1]; i++) {
            w.plan(i % 2, 0);
        }
        return w;
    }

    private static Object[] argumentsOf(Object[] dear) {
        return java.util.Arrays.copyOfRange(dear, 2, dear.length);
    }

    /** "1500 in all: what would be more is FULL (and isn't counted)": each as the last one, and one WORK later. */
    private static void workJustSo() {
        for (Object[] dear : DEAR) {
            String name = (String) dear[0];
            int work = (int) dear[1];
            Object[] all = argumentsOf(dear);
            WindowRounds w = spent(dear, 1500 - work);
            WindowRounds free = spent(dear, 0);
            Calls.due(w, Calls.answer(free, name, all), name, all);
            Check.due("WORK by " + Calls.row(name, all), free.count(5), work);
            Check.due("all WORK by " + Calls.row(name, all), w.count(5), 1500);
            for (int left = 0; left < work; left += Math.max(work - 1, 1)) {
                int done = 1500 - left;
                Twins.refused(() -> spent(dear, done), FULL, name, all);
            }
            Calls.due(w, FULL, name, all);
            Calls.due(w, 1500, "count", 5);
        }
    }

    /** What is FULL for one may still be done by another: nothing of it was counted. */
    private static void workFarBelow() {
        WindowRounds w = Twins.spent(1490);
        Calls.due(w, FULL, "improve", 11);
        Calls.due(w, FULL, "improve", 20);
        Calls.due(w, 1490, "count", 5);
        Calls.due(w, 0, "improve", 7);
        Calls.due(w, FULL, "chance", 1, 0, 4, 0);
        Calls.due(w, 1, "chance", 1, 0, 2, 0);
        Calls.due(w, 1499, "count", 5);
        w.plan(0, 0);
        w.plan(0, 0);
        Calls.due(w, FULL, "ends", 0);
        w.plan(-1, 0);
        w.plan(0, 0);
        Calls.due(w, 0, "ends", 0);
        Calls.due(w, 1500, "count", 5);
        Calls.due(w, FULL, "fill");
        w.plan(-1, 0);
        Calls.due(w, 0, "ends", 0);
    }

    /** "FULL .. behind all else that a call's words name". */
    private static void workOfRefused() {
        Twins.Making spent = () -> spent(DEAR[9], 1500);
        Twins.refused(spent, BAD, "improve", 0);
        Twins.refused(spent, BAD, "improve", 21);
        Twins.refused(spent, FULL, "improve", 20);
        Twins.refused(spent, FULL, "improve", 1);
        Twins.refused(spent, NONE, "best", -1);
        Twins.refused(spent, NONE, "best", 5);
        Twins.refused(spent, FULL, "best", 4);
        Twins.refused(spent, BAD, "drawn", 0, -1);
        Twins.refused(spent, BAD, "drawn", 0, 9);
        Twins.refused(spent, FULL, "drawn", 0, 0);
        Twins.refused(spent, BAD, "chance", 0, 9, 4, 0);
        Twins.refused(spent, BAD, "chance", 0, 8, 5, 0);
        Twins.refused(spent, BAD, "chance", 0, 8, 4, 2);
        Twins.refused(spent, FULL, "chance", 0, 8, 4, 1);
        Twins.refused(spent, NONE, "ends", 2);
        Twins.refused(spent, FULL, "ends", 1);
        Twins.refused(spent, FULL, "fill");
    }

    /** All other calls are no WORK, and go on when all of it is done. */
    private static void workOfOthers() {
        WindowRounds w = Twins.spent(1500);
        Calls.due(w, 0, "stop", 42, 32, 1, 0, 999, 0);
        Calls.due(w, 20, "put", 0, 0, 0);
        Calls.due(w, 0, "lock", 0, true);
        Calls.due(w, 1, "lock", 0, false);
        Calls.due(w, 1, "stop", 52, 32, 1, 0, 999, 0);
        Calls.due(w, 1, "odds", 0);
        Calls.due(w, 0, "mean", 0);
        Calls.due(w, 0, "cheapest", 1, -1, 0);
        Calls.due(w, 20, "adds", 1, 0, 1);
        Calls.due(w, 20, "put", 1, 0, 1);
        Calls.due(w, 0, "turn", 0, 0, 1);
        Calls.due(w, -20, "shift", 0, 1, 0);
        Calls.due(w, 0, "swap", 0, 1);
        Calls.due(w, 2, "image");
        Calls.due(w, 20, "take", 1);
        Calls.due(w, 2, "undo");
        Calls.due(w, 2, "clear", 0);
        Calls.due(w, 100, "fits", 0, 0);
        Calls.due(w, 1500, "count", 5);
    }

    /** WORK is counted for good: neither undo() nor a refused call gives any of it back. */
    private static void workIsNotGivenBack() {
        WindowRounds w = new WindowRounds();
        w.image();
        Calls.due(w, 0, "improve", 20);
        Calls.due(w, 0, "undo");
        Calls.due(w, 20, "count", 5);
        Calls.due(w, BAD, "improve", 21);
        Calls.due(w, 20, "count", 5);
        w.image();
        Calls.due(w, 0, "fill");
        Calls.due(w, 0, "undo");
        Calls.due(w, 21, "count", 5);
    }
}
