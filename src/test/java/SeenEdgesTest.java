/** Promises 28 to 33 at their edges: rows of SEEN, minutes that just fit, fractions, draws as long as there is room. */
public final class SeenEdgesTest {
    private static final int NONE = -1, BAD = -2, FULL = -4, NIL = -5;
    private static final long NO = Long.MIN_VALUE;
    private static final int LEAST = Integer.MIN_VALUE, MOST = Integer.MAX_VALUE;
    private static final int[] BEYOND_ROUNDS = {-1, 4, LEAST, MOST};

    private SeenEdgesTest() {
    }

    public static void main(String[] args) {
        promise28Refused();
        promise28Minutes();
        promise28FiveRows();
        promise28NoneThen();
        promise29Refused();
        promise29FirstAndLastMinute();
        promise29HowLongItHolds();
        promise29AllOfSeen();
        promise29OfOthers();
        promise29WithoutStops();
        promise30Refused();
        promise30LowestTerms();
        promise30Somewhere();
        promise31Refused();
        promise31LowestTerms();
        promise32Refused();
        promise32Room();
        promise32Seeds();
        promise32JustSo();
        promise32ChangesNothing();
        promise33Refused();
        promise33SeedsGoRound();
        promise33ChangesNothing();
        Check.end("SeenEdgesTest");
    }

    /** "NONE; BAD: minute (0 .. 1999); FULL: 5": the first that is named. */
    private static void promise28Refused() {
        for (int s : new int[] {-2, 6, 15, 16, LEAST, MOST}) {
            Twins.refused(Twins::busy, NONE, "see", s, 60);
            Twins.refused(Twins::busy, NONE, "see", s, -1);
            Twins.refused(Twins::busy, NONE, "see", s, 2000);
        }
        for (int s = 0; s < 6; s++) {
            for (int minute : new int[] {-1, 2000, LEAST, MOST}) {
                Twins.refused(Twins::busy, BAD, "see", s, minute);
            }
        }
        for (int s : new int[] {0, 15}) {
            Twins.refused(Twins::full, FULL, "see", s, 0);
            Twins.refused(Twins::full, FULL, "see", s, 1999);
            Twins.refused(Twins::full, BAD, "see", s, -1);
            Twins.refused(Twins::full, BAD, "see", s, 2000);
        }
        Twins.refused(Twins::full, NONE, "see", 16, 0);
        Twins.refused(Twins::full, NONE, "see", -2, 0);
        Twins.refused(Twins::full, NONE, "see", 16, 2000);
        Twins.refused(WindowRounds::new, NONE, "see", 0, 0);
    }

    private static void promise28Minutes() {
        for (int minute : new int[] {0, 1, 1998, 1999}) {
            WindowRounds w = Twins.busy();
            Calls.due(w, 3, "see", 5, minute);
            Calls.due(w, 3, "count", 1);
        }
    }

    /** "SEEN told by hand: a STOP, a minute (5 rows at most)". */
    private static void promise28FiveRows() {
        WindowRounds w = new WindowRounds();
        w.stop(42, 32, 1, 0, 999, 0);
        w.put(0, 0, 0);
        for (int many = 1; many <= 5; many++) {
            Calls.due(w, 100, "fits", 1, 0);
            Calls.due(w, many, "see", 0, 10 + many);
            Calls.due(w, many == 1 ? 1 : 0, "fits", 0, 0);
            Calls.due(w, many, "count", 1);
        }
        Calls.due(w, FULL, "see", 0, 11);
        Calls.due(w, 5, "count", 1);
        Calls.due(w, 0, "see", -1, 11);
        for (int many = 1; many <= 5; many++) {
            Calls.due(w, many, "see", 0, 20);
        }
        Calls.due(w, 10, "fits", 0, 1);
        Calls.due(w, FULL, "see", 0, 21);
        Calls.due(w, 10, "fits", 0, 1);
    }

    /** "(stop -1: none then, 0, whatever the other is)". */
    private static void promise28NoneThen() {
        for (int minute : new int[] {0, 60, 1999, -1, 2000, LEAST, MOST}) {
            WindowRounds w = Twins.full();
            Calls.due(w, 0, "see", -1, minute);
            Calls.due(w, 0, "count", 1);
            Calls.due(w, 100, "fits", 1, 0);
            Calls.due(w, 1, "see", 0, 12);
            Calls.due(w, 10, "fits", 1, 1);
            Calls.due(w, 0, "see", -1, minute);
            Calls.due(w, 0, "see", -1, minute);
            Calls.due(w, 0, "count", 1);
        }
        Twins.asked(WindowRounds::new, 0, "see", -1, 2000);
    }

    /** "NONE": ROUND, what 0 or 1. */
    private static void promise29Refused() {
        for (int r : BEYOND_ROUNDS) {
            for (int what : new int[] {-1, 0, 1, 2}) {
                Twins.refused(Twins::busy, NONE, "fits", r, what);
            }
        }
        for (int r = 0; r < 4; r++) {
            for (int what : new int[] {-1, 2, LEAST, MOST}) {
                Twins.refused(Twins::busy, NONE, "fits", r, what);
            }
        }
        int[] many = {14, 14, 100, 100};
        for (int r = 0; r < 4; r++) {
            Twins.asked(Twins::busy, many[r], "fits", r, 0);
            Twins.asked(Twins::busy, 0, "fits", r, 1);
        }
    }

    private static void fits(WindowRounds w, int round, int many, int least) {
        Calls.due(w, many, "fits", round, 0);
        Calls.due(w, least, "fits", round, 1);
    }

    private static WindowRounds ofOne(int last, int... minutes) {
        WindowRounds w = new WindowRounds();
        w.stop(42, 32, 1, 0, last, 0);
        w.put(0, 2, 0);
        for (int minute : minutes) {
            w.see(0, minute);
        }
        return w;
    }

    /** "how many minutes 0 .. 99 there are by which, were it to LEAVE then, .. BEGIN as told; the least (-5: none)". */
    private static void promise29FirstAndLastMinute() {
        fits(ofOne(999, 9), 2, 0, NIL);
        fits(ofOne(999, 10), 2, 1, 0);
        fits(ofOne(999, 11), 2, 1, 1);
        fits(ofOne(999, 108), 2, 1, 98);
        fits(ofOne(999, 109), 2, 1, 99);
        fits(ofOne(999, 110), 2, 0, NIL);
        fits(ofOne(999, 0), 2, 0, NIL);
        fits(ofOne(999, 1999), 2, 0, NIL);
        fits(ofOne(999), 2, 100, 0);
        WindowRounds w = ofOne(999, 109);
        w.rule(2, 1, 500);
        fits(w, 2, 1, 99);
        Calls.due(w, 500, "round", 2, 1);
        Calls.due(w, 510, "of", 0, 10);
    }

    /** "it would HOLD": by LAST and by HOME. */
    private static void promise29HowLongItHolds() {
        fits(ofOne(10), 2, 1, 0);
        fits(ofOne(11), 2, 2, 0);
        fits(ofOne(108), 2, 99, 0);
        fits(ofOne(109), 2, 100, 0);
        fits(ofOne(110), 2, 100, 0);
        fits(ofOne(10, 10), 2, 1, 0);
        fits(ofOne(10, 11), 2, 0, NIL);
        fits(ofOne(50, 50), 2, 1, 40);
        fits(ofOne(50, 51), 2, 0, NIL);
        for (int home = 118; home <= 121; home++) {
            WindowRounds w = ofOne(999);
            w.rule(2, 2, home);
            fits(w, 2, Math.min(home - 19, 100), 0);
        }
        WindowRounds w = ofOne(999);
        w.rule(2, 2, 20);
        fits(w, 2, 1, 0);
        w.rule(2, 0, 1);
        fits(w, 2, 1, 0);
    }

    /** "at all STOPS of SEEN that are in it BEGIN as told": each row, and of one STOP more than one. */
    private static void promise29AllOfSeen() {
        WindowRounds w = ofOne(999);
        w.stop(52, 32, 1, 60, 999, 0);
        w.put(1, 2, 1);
        w.see(1, 60);
        fits(w, 2, 41, 0);
        w.see(0, 50);
        fits(w, 2, 1, 40);
        w.see(1, 60);
        fits(w, 2, 1, 40);
        w.see(1, 61);
        fits(w, 2, 0, NIL);
        w.see(-1, 0);
        w.see(1, 61);
        w.see(0, 51);
        fits(w, 2, 1, 41);
        w.see(0, 50);
        fits(w, 2, 0, NIL);
        w.see(-1, 0);
        w.see(0, 51);
        w.see(1, 60);
        fits(w, 2, 0, NIL);
        w.see(-1, 0);
        w.see(1, 59);
        fits(w, 2, 0, NIL);
    }

    /** What is SEEN of a STOP that is in another ROUND, or in none, doesn't matter. */
    private static void promise29OfOthers() {
        WindowRounds w = ofOne(999, 30);
        w.stop(22, 32, 1, 0, 999, 0);
        w.see(1, 7);
        fits(w, 2, 1, 20);
        w.put(1, 3, 0);
        fits(w, 2, 1, 20);
        fits(w, 3, 0, NIL);
        w.take(1);
        fits(w, 3, 100, 0);
        w.take(0);
        fits(w, 2, 100, 0);
        w.put(0, 0, 0);
        fits(w, 0, 1, 20);
        fits(w, 2, 100, 0);
    }

    /** "one without STOPS always does" HOLD: whatever HOME is. */
    private static void promise29WithoutStops() {
        WindowRounds w = ofOne(999, 30);
        w.clear(2);
        for (int r = 0; r < 4; r++) {
            w.rule(r, 0, 0);
            w.rule(r, 2, 0);
            fits(w, r, 100, 0);
        }
    }

    /** "part 0 above, 1 below the line. NO: part", "(NO: all are in ROUNDS)". */
    private static void promise30Refused() {
        for (int part : new int[] {-1, 2, LEAST, MOST}) {
            Twins.refused(Twins::busy, NO, "odds", part);
            Twins.refused(WindowRounds::new, NO, "odds", part);
        }
        Twins.asked(Twins::busy, 1, "odds", 0);
        Twins.asked(Twins::busy, 2, "odds", 1);
        Twins.Making all = Twins.after(Twins::full, WindowRounds::fill);
        for (int part = 0; part < 2; part++) {
            Twins.asked(WindowRounds::new, NO, "odds", part);
            Twins.asked(all, NO, "odds", part);
            Twins.asked(Twins.after(all, w -> w.take(15)), 1, "odds", part);
        }
    }

    /** "a fraction in lowest terms": could of loose, each of both from 0 to 16. */
    private static void promise30LowestTerms() {
        for (int loose = 1; loose <= 16; loose++) {
            for (int could = 0; could <= loose; could++) {
                WindowRounds w = new WindowRounds();
                for (int s = 0; s < loose; s++) {
                    w.stop(33, 32, 0, 0, s < could ? 999 : 0, 0);
                }
                int by = divisor(could, loose);
                Check.due(could + " of " + loose + " above", w.odds(0), could / by);
                Check.due(could + " of " + loose + " below", w.odds(1), loose / by);
            }
        }
    }

    private static int divisor(int a, int b) {
        int by = b;
        while (a % by != 0 || b % by != 0) {
            by--;
        }
        return by;
    }

    /** "that it COULD be put somewhere": in one ROUND, at one place is enough. */
    private static void promise30Somewhere() {
        for (int r = 0; r < 4; r++) {
            WindowRounds w = new WindowRounds();
            w.stop(42, 32, 1, 10, 10, 0);
            w.stop(52, 32, 1, 30, 40, 0);
            w.stop(47, 32, 1, 0, 999, 0);
            w.put(0, r, 0);
            w.put(1, r, 1);
            for (int other = 0; other < 4; other++) {
                w.rule(other, 0, other == r ? 3 : 0);
            }
            Calls.due(w, 1, "odds", 0);
            w.set(2, 5, 30);
            w.set(2, 4, 50);
            w.rule(r, 2, 50);
            Calls.due(w, 0, "odds", 0);
            w.set(2, 5, 10);
            Calls.due(w, 1, "odds", 0);
            w.set(1, 4, 30);
            Calls.due(w, 1, "odds", 0);
            w.set(2, 5, 11);
            Calls.due(w, 0, "odds", 0);
        }
    }

    /** "part likewise. NO", "(NO: none is)". */
    private static void promise31Refused() {
        for (int part : new int[] {-1, 2, LEAST, MOST}) {
            Twins.refused(Twins::busy, NO, "mean", part);
            Twins.refused(WindowRounds::new, NO, "mean", part);
        }
        Twins.asked(Twins::busy, 19, "mean", 0);
        Twins.asked(Twins::busy, 4, "mean", 1);
        for (int part = 0; part < 2; part++) {
            Twins.asked(WindowRounds::new, NO, "mean", part);
            Twins.asked(Twins.after(Twins::full, w -> w.take(0)), NO, "mean", part);
            Twins.asked(Twins::full, part, "mean", part);
        }
    }

    /** "minutes that ROUNDS WAIT, in all, by how many STOPS are in them, likewise". */
    private static void promise31LowestTerms() {
        for (int many = 1; many <= 16; many++) {
            for (int waits = 0; waits <= 20; waits++) {
                WindowRounds w = new WindowRounds();
                for (int s = 0; s < many; s++) {
                    w.stop(32, 32, 0, s == 0 ? waits / 2 : s == 1 ? waits - waits / 2 : 0, 999, 0);
                    w.put(s, s % 4, 0);
                }
                w.stop(32, 32, 0, 500, 999, 0);
                int all = many == 1 ? waits / 2 : waits;
                int by = divisor(all, many);
                Check.due(all + " by " + many + " above", w.mean(0), all / by);
                Check.due(all + " by " + many + " below", w.mean(1), many / by);
            }
        }
    }

    /** "BAD: n; FULL: WORK", "n STOPS more (0 .. 8 ..)". */
    private static void promise32Refused() {
        for (int n : new int[] {-1, 9, LEAST, MOST}) {
            Twins.refused(Twins::busy, BAD, "drawn", 5, n);
            Twins.refused(() -> Twins.spent(1500), BAD, "drawn", 5, n);
        }
        for (int n : new int[] {0, 1, 8}) {
            for (int seed : new int[] {0, 5, -1, LEAST, MOST}) {
                Twins.refused(() -> Twins.spent(1500), FULL, "drawn", seed, n);
                Calls.due(new WindowRounds(), 0, "drawn", seed, n);
            }
        }
    }

    /** "(0 .. 8; as long as there is room)", "how many STOPS are in no ROUND". */
    private static void promise32Room() {
        for (int had = 0; had <= 16; had++) {
            WindowRounds w = new WindowRounds();
            for (int r = 0; r < 4; r++) {
                w.rule(r, 2, 0);
            }
            for (int s = 0; s < had; s++) {
                w.stop(42, 32, 1, 0, 999, 0);
            }
            for (int n = 0; n <= 8; n++) {
                Calls.due(w, Math.min(16, had + n), "drawn", 3 * n - had, n);
            }
            Calls.due(w, had, "count", 0);
            Calls.due(w, had, "told", 2);
        }
    }

    /** "numbers (z >>> 9) % what is told, z being z * 1103515245 + 12345 (an int; SEED at first)": seeds at either end. */
    private static void promise32Seeds() {
        int[] seeds = {0, 1, -1, MOST, LEAST, MOST - 1, LEAST + 1, 1 << 30, -(1 << 30)};
        for (int seed : seeds) {
            for (int n = 1; n <= 8; n++) {
                WindowRounds w = ofTightRounds();
                WindowRounds byHand = ofTightRounds();
                int z = seed;
                for (int i = 0; i < n; i++) {
                    int[] f = new int[6];
                    for (int what = 0; what < 6; what++) {
                        z = z * 1103515245 + 12345;
                        f[what] = (z >>> 9) % new int[] {64, 64, 10, 400, 200, 20}[what];
                    }
                    byHand.stop(f[0], f[1], f[2], f[3], f[3] + 20 + f[4], f[5]);
                }
                byHand.fill();
                Calls.due(w, byHand.told(2), "drawn", seed, n);
            }
        }
    }

    private static WindowRounds ofTightRounds() {
        WindowRounds w = new WindowRounds();
        for (int r = 0; r < 4; r++) {
            w.rule(r, 0, 5 + r);
            w.rule(r, 2, 300 + 40 * r);
        }
        return w;
    }

    /**
     * "x % 64, y % 64, LOAD % 10, FIRST % 400, then LAST that and 20 and % 200, STAY % 20": of one that is drawn, LEAVE,
     * ROOM and HOME are just so that it COULD be put, and by 1 not so.
     */
    private static void promise32JustSo() {
        int leaves = 0;
        for (int seed = -300; seed < 300; seed++) {
            int[] f = new int[6];
            int z = seed * 7654321;
            for (int what = 0; what < 6; what++) {
                z = z * 1103515245 + 12345;
                f[what] = (z >>> 9) % new int[] {64, 64, 10, 400, 200, 20}[what];
            }
            int way = Math.abs(f[0] - 32) + Math.abs(f[1] - 32);
            int last = f[3] + 20 + f[4];
            int leave = Math.max(last - way, 0);
            int back = last - way >= 0 ? last + f[5] + way : 0;
            leaves += last - way >= 0 ? 1 : 0;
            WindowRounds w = new WindowRounds();
            everyRound(w, 1, leave);
            everyRound(w, 0, f[2]);
            everyRound(w, 2, back);
            Calls.due(w, last - way >= 0 ? 0 : 1, "drawn", seed * 7654321, 1);
            everyRound(w, 0, f[2] - 1);
            Calls.due(w, f[2] > 0 || last - way < 0 ? 1 : 0, "drawn", seed * 7654321, 1);
            everyRound(w, 0, 60);
            everyRound(w, 2, back - 1);
            Calls.due(w, 1, "drawn", seed * 7654321, 1);
            everyRound(w, 2, 1999);
            everyRound(w, 1, leave + 1);
            Calls.due(w, 1, "drawn", seed * 7654321, 1);
            everyRound(w, 1, 0);
            everyRound(w, 2, Math.max(way, f[3]) + f[5] + way);
            Calls.due(w, last - way >= 0 ? 0 : 1, "drawn", seed * 7654321, 1);
            everyRound(w, 2, Math.max(way, f[3]) + f[5] + way - 1);
            Calls.due(w, 1, "drawn", seed * 7654321, 1);
        }
        Check.holds("nearly all can be reached", leaves > 500);
    }

    private static void everyRound(WindowRounds w, int what, int v) {
        for (int r = 0; r < 4; r++) {
            w.rule(r, what, v);
        }
    }

    /** "DRAWN by a SEED, in thought": nothing comes but WORK. */
    private static void promise32ChangesNothing() {
        for (int n : new int[] {0, 1, 8}) {
            Twins.thought(Twins::busy, Twins.busy().drawn(7, n), 1, "drawn", 7, n);
            Twins.thought(Twins::full, 0, 1, "drawn", 7, n);
        }
    }

    /** "BAD: n, m, part; FULL: WORK", "m seeds (1 .. 4)". */
    private static void promise33Refused() {
        for (int n : new int[] {-1, 9, LEAST, MOST}) {
            Twins.refused(Twins::busy, BAD, "chance", 5, n, 1, 0);
            Twins.refused(() -> Twins.spent(1500), BAD, "chance", 5, n, 1, 0);
        }
        for (int m : new int[] {-1, 0, 5, LEAST, MOST}) {
            Twins.refused(Twins::busy, BAD, "chance", 5, 1, m, 0);
            Twins.refused(() -> Twins.spent(1500), BAD, "chance", 5, 1, m, 1);
        }
        for (int part : new int[] {-1, 2, LEAST, MOST}) {
            Twins.refused(Twins::busy, BAD, "chance", 5, 1, 1, part);
            Twins.refused(() -> Twins.spent(1500), BAD, "chance", 5, 1, 1, part);
        }
        for (int m = 1; m <= 4; m++) {
            for (int n : new int[] {0, 8}) {
                WindowRounds w = new WindowRounds();
                Calls.due(w, 1, "chance", 5, n, m, 0);
                Calls.due(w, 1, "chance", 5, n, m, 1);
                Calls.due(w, 2 * m, "count", 5);
                Twins.refused(() -> Twins.spent(1500), FULL, "chance", 5, n, m, 0);
            }
        }
    }

    /** "SEED and each 1 more (an int)": beyond the greatest int comes the least; "a fraction in lowest terms". */
    private static void promise33SeedsGoRound() {
        int mixed = 0;
        for (int seed = MOST - 3; seed != LEAST + 3; seed++) {
            for (int m = 1; m <= 4; m++) {
                WindowRounds w = ofTightRounds();
                int none = 0;
                for (int i = 0; i < m; i++) {
                    none += w.drawn(seed + i, 4) == 0 ? 1 : 0;
                }
                mixed += none > 0 && none < m ? 1 : 0;
                int by = divisor(none, m);
                Calls.due(w, none / by, "chance", seed, 4, m, 0);
                Calls.due(w, m / by, "chance", seed, 4, m, 1);
            }
        }
        Check.holds("some were mixed", mixed > 3);
    }

    /** "FULL (and isn't counted)"; else m are. */
    private static void promise33ChangesNothing() {
        for (int m = 1; m <= 4; m++) {
            Twins.thought(Twins::busy, 0, m, "chance", 7, 8, m, 0);
            Twins.thought(Twins::full, 1, m, "chance", MOST, 8, m, 1);
        }
    }
}
