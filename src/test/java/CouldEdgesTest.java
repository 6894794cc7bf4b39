import java.util.Random;
import java.util.Set;
import java.util.TreeSet;

/** Promises 19 to 27 at their edges: what COULD be put where, MOVES that just MAY be, the first of like ones, LATE, DUE. */
public final class CouldEdgesTest {
    private static final int NONE = -1, BAD = -2, STATE = -3, FULL = -4, NIL = -5, MAY_NOT = -100000;
    private static final int LEAST = Integer.MIN_VALUE, MOST = Integer.MAX_VALUE;
    private static final int[] BEYOND_ROUNDS = {-1, 4, LEAST, MOST};
    private static final int[] BEYOND_STOPS = {-1, 6, 16, LEAST, MOST};
    private static final int[] SIZES = {3, 1, 0, 0};

    private CouldEdgesTest() {
    }

    public static void main(String[] args) {
        promise19Far();
        promise20Refused();
        promise20Could();
        promise21Refused();
        promise21OfOneRound();
        promise21FirstOfLike();
        promise21BehindDearerOnes();
        promise21SecondBest();
        promise22Refused();
        promise22MoreThanNothing();
        promise22FirstOfLikes();
        promise22MovesOfLike();
        promise22NotBeyondItsRow();
        promise22PastLooseOnes();
        promise22NotByLooseOnes();
        promise23Refused();
        promise23JustMay();
        promise23Locked();
        promise24Refused();
        promise24Places();
        promise24JustMay();
        promise25Refused();
        promise25JustMay();
        promise25JustMayOfOneRound();
        promise26Refused();
        promise26JustLate();
        promise26RoomIsNotAsked();
        promise26WithoutStops();
        promise26EmptiedRounds();
        promise27Refused();
        promise27Like();
        Check.end("CouldEdgesTest");
    }

    /** "How FAR two PLACES are. BAD": each of the four from 0 to 63; "KING: the greater of these". */
    private static void promise19Far() {
        int[] place = {20, 30, 20, 30};
        for (int i = 0; i < 4; i++) {
            for (int v : new int[] {-1, 64, LEAST, MOST}) {
                Object[] all = {20, 30, 20, 30};
                all[i] = v;
                Twins.refused(Twins::busy, BAD, "far", all);
            }
            for (int v : new int[] {0, 1, 62, 63}) {
                Object[] all = {20, 30, 20, 30};
                all[i] = v;
                Twins.asked(Twins::busy, Math.abs(v - place[i]), "far", all);
            }
        }
        int[][] due = {{7, 4, 11}, {7, 4, 11}, {8, 4, 12}, {1, 1, 2}};
        int[][] to = {{3, 4}, {4, 3}, {4, 4}, {0, 1}};
        for (int metric = 0; metric < 3; metric++) {
            WindowRounds w = new WindowRounds();
            w.price(0, metric);
            for (int i = 0; i < 4; i++) {
                Calls.due(w, due[i][metric], "far", 50, 40, 50 + to[i][0], 40 + to[i][1]);
                Calls.due(w, due[i][metric], "far", 50, 40, 50 - to[i][0], 40 + to[i][1]);
                Calls.due(w, due[i][metric], "far", 50 + to[i][0], 40, 50, 40 + to[i][1]);
                Calls.due(w, due[i][metric], "far", 50 + to[i][0], 40 + to[i][1], 50, 40);
            }
        }
    }

    /** "NONE: stop, round; STATE: it is in a ROUND; BAD: k; -5: it COULD not be put there": the first that is named. */
    private static void promise20Refused() {
        RoundEdgesTest.refusedAtPlaces("adds", NIL);
    }

    /** 0 in ROUND 1 (42,32, till last, LOAD 5), 1 loose (37,32, stays 4, LOAD 6): ahead of 0 or behind it. */
    private static WindowRounds ofTwo(int last, int home, int room) {
        WindowRounds w = new WindowRounds();
        w.stop(42, 32, 5, 0, last, 3);
        w.stop(37, 32, 6, 0, 999, 4);
        w.put(0, 1, 0);
        w.rule(1, 2, home);
        w.rule(1, 0, room);
        return w;
    }

    /** "COULD be put at place k (0 .. as many as it has) of a ROUND, if that HOLDS then": just so, and one less. */
    private static void promise20Could() {
        Twins.asked(() -> ofTwo(14, 27, 11), 0, "adds", 1, 1, 0);
        Twins.asked(() -> ofTwo(13, 27, 11), NIL, "adds", 1, 1, 0);
        Twins.asked(() -> ofTwo(14, 26, 11), NIL, "adds", 1, 1, 0);
        Twins.asked(() -> ofTwo(14, 27, 10), NIL, "adds", 1, 1, 0);
        Twins.asked(() -> ofTwo(10, 27, 11), 0, "adds", 1, 1, 1);
        Twins.asked(() -> ofTwo(10, 26, 11), NIL, "adds", 1, 1, 1);
        Twins.asked(() -> ofTwo(10, 27, 10), NIL, "adds", 1, 1, 1);
        Twins.asked(() -> ofTwo(10, 27, 11), NIL, "adds", 1, 1, 0);
        Twins.asked(() -> ofTwo(10, 27, 11), 10, "adds", 1, 0, 0);
        Twins.asked(() -> ofTwo(10, 27, 11), BAD, "adds", 1, 0, 1);
        Twins.asked(() -> ofTwo(10, 27, 11), BAD, "adds", 1, 1, 2);
    }

    /** "of a ROUND (round -1: of all) .. 3 (of all alone) REGRET; -5 ..; NONE: stop, round, what; STATE: it is in a ROUND". */
    private static void promise21Refused() {
        for (int s : BEYOND_STOPS) {
            Twins.refused(Twins::busy, NONE, "cheapest", s, -1, 0);
            Twins.refused(Twins::busy, NONE, "cheapest", s, 0, 0);
        }
        for (int r : new int[] {-2, 4, LEAST, MOST}) {
            Twins.refused(Twins::busy, NONE, "cheapest", 5, r, 0);
            Twins.refused(Twins::busy, NONE, "cheapest", 0, r, 0);
        }
        for (int what : new int[] {-1, 4, LEAST, MOST}) {
            Twins.refused(Twins::busy, NONE, "cheapest", 5, -1, what);
            Twins.refused(Twins::busy, NONE, "cheapest", 0, -1, what);
        }
        for (int r = 0; r < 4; r++) {
            for (int what : new int[] {-1, 3, LEAST, MOST}) {
                Twins.refused(Twins::busy, NONE, "cheapest", 5, r, what);
                Twins.refused(Twins::busy, NONE, "cheapest", 0, r, what);
                Twins.refused(Twins::busy, NONE, "cheapest", 4, r, what);
            }
            for (int what = 0; what < 3; what++) {
                Twins.refused(Twins::busy, STATE, "cheapest", 3, r, what);
                Twins.asked(Twins::busy, NIL, "cheapest", 4, r, what);
            }
        }
        for (int what = 0; what < 4; what++) {
            Twins.refused(Twins::busy, STATE, "cheapest", 0, -1, what);
            Twins.asked(Twins::busy, NIL, "cheapest", 4, -1, what);
        }
    }

    private static void promise21OfOneRound() {
        int[][] due = {{0, 0, 0}, {1, 0, 3}, {2, 0, 9}, {3, 0, 9}};
        for (int r = 0; r < 4; r++) {
            for (int what = 0; what < 3; what++) {
                Twins.asked(Twins::busy, due[r][what], "cheapest", 5, r, what);
            }
        }
        int[] ofAll = {0, 0, 0, 3};
        for (int what = 0; what < 4; what++) {
            Twins.asked(Twins::busy, ofAll[what], "cheapest", 5, -1, what);
        }
    }

    /** "the place where it COULD be put that ADDS least; of like ones the first", "of all: of like ones that of the least ROUND". */
    private static void promise21FirstOfLike() {
        for (int x = 36; x <= 46; x += 5) {
            WindowRounds w = new WindowRounds();
            for (int s = 0; s < 4; s++) {
                w.stop(x, 32, 0, 0, 999, 0);
            }
            w.stop(41, 32, 0, 0, 999, 0);
            w.put(0, 2, 0);
            w.put(1, 2, 1);
            w.put(2, 3, 0);
            w.put(3, 3, 1);
            Calls.due(w, 0, "cheapest", 4, 2, 1);
            Calls.due(w, x < 41 ? 10 : 0, "cheapest", 4, 2, 2);
            Calls.due(w, 2, "cheapest", 4, -1, 0);
            Calls.due(w, 0, "cheapest", 4, -1, 3);
            w.rule(2, 2, w.round(2, 6));
            Calls.due(w, x < 41 ? 3 : 2, "cheapest", 4, -1, 0);
        }
        WindowRounds w = new WindowRounds();
        w.stop(36, 32, 0, 0, 999, 0);
        w.stop(28, 32, 0, 0, 999, 0);
        w.stop(41, 32, 0, 0, 999, 0);
        w.put(0, 0, 0);
        w.put(1, 0, 1);
        Calls.due(w, 10, "adds", 2, 0, 0);
        Calls.due(w, 10, "adds", 2, 0, 1);
        Calls.due(w, 0, "cheapest", 2, 0, 1);
        w.set(0, 4, 13);
        Calls.due(w, 1, "cheapest", 2, 0, 1);
        w.set(1, 4, 12);
        Calls.due(w, 2, "cheapest", 2, 0, 1);
        Calls.due(w, 18, "cheapest", 2, 0, 2);
        Calls.due(w, 18, "cheapest", 2, 1, 2);
        Calls.due(w, 0, "cheapest", 2, -1, 0);
    }

    /** The CHEAPEST place may be behind dearer ones, and ahead of such. */
    private static void promise21BehindDearerOnes() {
        int[] xs = {52, 32, 47};
        int[] ys = {32, 52, 62};
        for (int i = 0; i < 3; i++) {
            WindowRounds w = new WindowRounds();
            w.stop(32, 62, 1, 0, 999, 0);
            w.stop(62, 62, 1, 0, 999, 0);
            w.put(0, 3, 0);
            w.put(1, 3, 1);
            w.stop(xs[i], ys[i], 1, 0, 999, 0);
            int least = 0;
            for (int k = 1; k < 3; k++) {
                least = w.adds(2, 3, k) < w.adds(2, 3, least) ? k : least;
            }
            Calls.due(w, new int[] {2, 0, 1}[i], "cheapest", 2, 3, 1);
            Calls.due(w, least, "cheapest", 2, 3, 1);
            Calls.due(w, 0, "cheapest", 2, 3, 2);
        }
    }

    /** "what its CHEAPEST of the second best ROUND ADDS, less what that of the best one does; 10000, if there is no second one". */
    private static void promise21SecondBest() {
        int[][] xs = {{62, 42, 52, 47}, {47, 52, 62, 42}, {42, 52, 47, 62}, {52, 62, 42, 47}, {42, 42, 47, 52}};
        int[] best = {0, 2, 3, 1, 3};
        int[] regret = {20, 20, 20, 20, 10};
        for (int i = 0; i < xs.length; i++) {
            WindowRounds w = new WindowRounds();
            for (int r = 0; r < 4; r++) {
                w.stop(xs[i][r], 32, 0, 0, 999, 0);
                w.put(r, r, 0);
            }
            w.stop(62, 32, 0, 0, 999, 0);
            Calls.due(w, best[i], "cheapest", 4, -1, 0);
            Calls.due(w, regret[i], "cheapest", 4, -1, 3);
        }
        for (int could = 0; could <= 4; could++) {
            WindowRounds w = new WindowRounds();
            w.stop(62, 32, 1, 0, 999, 0);
            for (int r = 0; r < 4; r++) {
                w.rule(r, 0, r >= 4 - could ? 1 : 0);
            }
            Calls.due(w, could == 0 ? NIL : 4 - could, "cheapest", 0, -1, 0);
            Calls.due(w, could == 0 ? NIL : could == 1 ? 10000 : 0, "cheapest", 0, -1, 3);
        }
    }

    /** "NONE: what; FULL: WORK": what from 0 to 4; NONE tells nothing of taken(), FULL neither. */
    private static void promise22Refused() {
        for (int what : new int[] {-1, 5, LEAST, MOST}) {
            Twins.refused(Twins::busy, NONE, "best", what);
            Twins.refused(() -> Twins.spent(1500), NONE, "best", what);
        }
        int[] due = {1, 4, 0, 0, 1};
        for (int what = 0; what < 5; what++) {
            Twins.thought(Twins::busy, due[what], 1, "best", what);
            Twins.thought(WindowRounds::new, NIL, 1, "best", what);
            Twins.refused(() -> Twins.spent(1500), FULL, "best", what);
        }
    }

    /** "that GAINS most, and more than 0": a GAIN of 0 is none, 1 is one, by each KIND. */
    private static void promise22MoreThanNothing() {
        for (int gain = 0; gain < 2; gain++) {
            WindowRounds w = new WindowRounds();
            w.stop(40, 32, 0, 0, 999, 0);
            w.stop(40 + gain, 32, 0, 0, 999, 0);
            w.stop(40 + gain, 33, 0, 0, 999, 0);
            w.put(1, 0, 0);
            w.put(0, 0, 1);
            w.put(2, 0, 2);
            w.price(0, 1);
            Calls.due(w, gain == 0 ? NIL : 1, "best", 0);
            Calls.due(w, gain == 0 ? NIL : 1, "best", 1);
        }
    }

    /** What turn(), shift() and swap() tell, in the order of the document; the first of those that gain most is THE BEST MOVE. */
    private static void promise22FirstOfLikes() {
        Set<String> likes = new TreeSet<>();
        for (int seed = 0; seed < 3600; seed++) {
            Random random = new Random(seed);
            WindowRounds w = seed % 3 == 0 ? ofLikeRounds(random) : seed % 3 == 1 ? ofOneRound(random) : near(random);
            Firsts firsts = new Firsts(w, w.count(0));
            firsts.lookAtAll();
            for (int what = 0; what < 5; what++) {
                Check.due("best(" + what + ") by seed " + seed, w.best(what), firsts.best[what]);
            }
            likes.addAll(firsts.likes);
        }
        for (String like : new String[] {"1 as 1 by 2", "1 as 1 by 3", "1 as 1 by 4", "1 as 2", "1 as 3", "2 as 2 by 2",
            "2 as 2 by 3", "2 as 2 by 4", "2 as 3", "3 as 3 by 2", "3 as 3 by 3"}) {
            Check.holds("there was " + like + " among " + likes, likes.contains(like));
        }
    }

    /** A few STOPS near to THE DEPOT and to one another, so that many MOVES GAIN as much. */
    private static WindowRounds near(Random random) {
        WindowRounds w = new WindowRounds();
        int rounds = 1 + random.nextInt(4);
        w.price(1, random.nextInt(3));
        for (int s = 1 + random.nextInt(6); s >= 0; s--) {
            int r = random.nextInt(rounds);
            int last = random.nextInt(3) == 0 ? 10 + random.nextInt(40) : 999;
            int stop = w.stop(30 + random.nextInt(5), 30 + random.nextInt(5), 3, 0, last, 0);
            w.put(stop, r, random.nextInt(w.round(r, 3) + 1));
            w.lock(stop, random.nextInt(9) == 0);
        }
        return w;
    }

    /** Five STOPS in one ROUND, and no ROOM in others. */
    private static WindowRounds ofOneRound(Random random) {
        WindowRounds w = new WindowRounds();
        for (int s = 0; s < 5; s++) {
            w.stop(30 + random.nextInt(6), 30 + random.nextInt(6), 4, 0, 999, 0);
            w.put(s, 3, s);
        }
        for (int r = 0; r < 3; r++) {
            w.rule(r, 0, 0);
        }
        return w;
    }

    /** Two ROUNDS, one on either side of THE DEPOT, that are as FAR, and have no ROOM for one more. */
    private static WindowRounds ofLikeRounds(Random random) {
        WindowRounds w = new WindowRounds();
        for (int s = 0; s < 3; s++) {
            int x = 5 + random.nextInt(27);
            int y = random.nextInt(31);
            w.stop(32 + x, 17 + y, 4, 0, 999, 0);
            w.stop(32 - x, 17 + y, 4, 0, 999, 0);
            w.put(2 * s, 1, s);
            w.put(2 * s + 1, 2, s);
        }
        for (int r = 0; r < 4; r++) {
            w.rule(r, 0, r == 1 || r == 2 ? 12 : 0);
        }
        w.lock(random.nextInt(9), true);
        return w;
    }

    /** All MOVES that MAY be, by their calls. */
    private static final class Firsts {
        final WindowRounds w;
        final int stops;
        int[] best = {NIL, NIL, NIL, NIL, NIL};
        final Set<String> likes = new TreeSet<>();

        Firsts(WindowRounds w, int stops) {
            this.w = w;
            this.stops = stops;
        }

        void note(int... move) {
            if (move[1] == best[1] && move[1] > 0) {
                int what = 2;
                while (what < 4 && move[what] == best[what]) {
                    what++;
                }
                likes.add(best[0] + " as " + move[0] + (best[0] == move[0] ? " by " + what : ""));
            }
            if (move[1] > Math.max(best[1], 0)) {
                best = move;
                likes.clear();
            }
        }

        void lookAtAll() {
            for (int r = 0; r < 4; r++) {
                int size = w.round(r, 3);
                for (int i = 0; i < size; i++) {
                    for (int j = i + 1; j < size; j++) {
                        note(1, w.turn(r, i, j), r, i, j);
                    }
                }
            }
            for (int s = 0; s < stops; s++) {
                for (int r = 0; r < 4; r++) {
                    for (int k = w.of(s, 6) == NIL ? 9 : 0; k <= w.round(r, 3); k++) {
                        note(2, w.shift(s, r, k), s, r, k);
                    }
                }
            }
            for (int s = 0; s < stops; s++) {
                for (int t = s + 1; t < stops; t++) {
                    note(3, w.swap(s, t), s, t, NIL);
                }
            }
        }
    }

    /** A TURN ahead of a SHIFT that GAINS as much, but not ahead of one that GAINS one more. */
    private static void promise22MovesOfLike() {
        for (int fixed = 15; fixed <= 17; fixed++) {
            WindowRounds w = Check.onALine();
            w.price(1, fixed);
            Calls.due(w, fixed, "shift", 3, 0, 0);
            Calls.due(w, 16, "turn", 0, 0, 1);
            Calls.due(w, fixed <= 16 ? 1 : 2, "best", 0);
            Calls.due(w, Math.max(fixed, 16), "best", 1);
            Calls.due(w, fixed <= 16 ? 0 : 3, "best", 2);
        }
    }

    /**
     * 1 is on the other side of 0 and 2, which are LOCKED: ahead of them 0 would be late, behind them 1 would. There is
     * no place behind the last one where nothing is late.
     */
    private static void promise22NotBeyondItsRow() {
        WindowRounds w = new WindowRounds();
        w.stop(62, 32, 1, 0, 30, 0);
        w.stop(22, 32, 1, 0, 70, 0);
        w.stop(62, 32, 1, 0, 999, 9);
        for (int s = 0; s < 3; s++) {
            w.put(s, 1, s);
            w.rule(s == 1 ? 3 : s, 0, 0);
        }
        w.rule(1, 0, 3);
        w.lock(0, true);
        w.lock(2, true);
        Calls.due(w, MAY_NOT, "shift", 1, 1, 0);
        Calls.due(w, MAY_NOT, "shift", 1, 1, 2);
        Calls.due(w, BAD, "shift", 1, 1, 3);
        Calls.due(w, NIL, "best", 0);
        Calls.due(w, 0, "improve", 1);
        w.set(1, 4, 79);
        Calls.due(w, 60, "shift", 1, 1, 2);
        Calls.due(w, 60, "best", 1);
        Calls.due(w, 2, "best", 4);
    }

    /** Loose ones between the two that are to be swapped, and about them, don't matter. */
    private static void promise22PastLooseOnes() {
        int[] xs = {5, 62, 6, 2, 7, 61, 8, 3, 9};
        int[] rounds = {NIL, 1, NIL, 0, NIL, 0, NIL, 1, NIL};
        WindowRounds w = new WindowRounds();
        for (int x : xs) {
            w.stop(x, 32, 10, 0, 999, 0);
        }
        for (int s = 0; s < xs.length; s++) {
            w.put(s, rounds[s], s > 3 ? 1 : 0);
        }
        w.rule(2, 0, 0);
        w.rule(3, 0, 0);
        int[] due = {3, 116, 1, 3, NIL};
        for (int what = 0; what < 5; what++) {
            Calls.due(w, due[what], "best", what);
        }
        w.lock(3, true);
        w.lock(7, true);
        Calls.due(w, NIL, "best", 0);
        w.lock(7, false);
        Calls.due(w, 5, "best", 2);
        Calls.due(w, 7, "best", 3);
        Calls.due(w, 1, "improve", 1);
        Check.row(w, 0, 3, 7);
        Check.row(w, 1, 1, 5);
    }

    /** "a SWAP of two STOPS (in ROUNDS ..)": 0 and 4 are in none, though either would stand better where 2 must be. */
    private static void promise22NotByLooseOnes() {
        WindowRounds w = new WindowRounds();
        w.stop(52, 32, 1, 0, 999, 0);
        w.stop(52, 32, 1, 0, 20, 0);
        w.stop(32, 32, 1, 40, 40, 0);
        w.stop(52, 32, 1, 60, 60, 0);
        w.stop(52, 32, 1, 0, 999, 0);
        for (int s = 1; s < 4; s++) {
            w.put(s, 0, s - 1);
        }
        for (int r = 1; r < 4; r++) {
            w.rule(r, 0, 0);
        }
        Calls.due(w, STATE, "swap", 0, 2);
        Calls.due(w, STATE, "swap", 2, 4);
        Calls.due(w, NIL, "best", 0);
        Calls.due(w, 0, "improve", 1);
        Check.row(w, 0, 1, 2, 3);
    }

    /** "NONE: round; BAD: i, j": i from 0, j to the last place, i below j. */
    private static void promise23Refused() {
        for (int r : BEYOND_ROUNDS) {
            Twins.refused(Twins::busy, NONE, "turn", r, 0, 1);
            Twins.refused(Twins::busy, NONE, "turn", r, 1, 0);
        }
        int[][] bad = {{0, 0}, {1, 1}, {2, 2}, {1, 0}, {2, 0}, {-1, 0}, {-1, 1}, {0, 3}, {2, 3}, {3, 3}, {3, 4}, {LEAST, 1},
            {0, MOST}, {LEAST, MOST}, {MOST, LEAST}, {MOST, MOST}};
        for (int[] b : bad) {
            Twins.refused(Twins::busy, BAD, "turn", 0, b[0], b[1]);
            Twins.refused(Twins::busy, BAD, "turn", 1, b[0], b[1]);
            Twins.refused(Twins::busy, BAD, "turn", 2, b[0], b[1]);
        }
        for (int r = 1; r < 4; r++) {
            Twins.refused(Twins::busy, BAD, "turn", r, 0, 1);
        }
        Twins.asked(Twins::busy, 4, "turn", 0, 0, 1);
        Twins.asked(Twins::busy, -5, "turn", 0, 1, 2);
        Twins.asked(Twins::busy, 0, "turn", 0, 0, 2);
    }

    /** 0 and 1 on a line in ROUND 3, 1 nearer: turned about, 0 comes at 10 and 5 later (1 stays 2). */
    private static WindowRounds toTurn(int last, int home) {
        WindowRounds w = new WindowRounds();
        w.stop(42, 32, 1, 0, last, 0);
        w.stop(37, 32, 1, 30, 99, 2);
        w.put(0, 3, 0);
        w.put(1, 3, 1);
        w.rule(3, 2, home);
        return w;
    }

    /** "A MOVE MAY be, if .. all ROUNDS HOLD then": by LAST and by HOME just so, and one less. */
    private static void promise23JustMay() {
        Twins.asked(() -> toTurn(37, 47), 0, "turn", 3, 0, 1);
        Twins.asked(() -> toTurn(36, 47), MAY_NOT, "turn", 3, 0, 1);
        Twins.asked(() -> toTurn(37, 46), MAY_NOT, "turn", 3, 0, 1);
        Twins.asked(() -> toTurn(37, 47), 0, "shift", 0, 3, 1);
        Twins.asked(() -> toTurn(36, 47), MAY_NOT, "shift", 0, 3, 1);
        Twins.asked(() -> toTurn(37, 46), MAY_NOT, "shift", 1, 3, 0);
        Twins.asked(() -> toTurn(37, 47), 0, "swap", 0, 1);
        Twins.asked(() -> toTurn(36, 47), MAY_NOT, "swap", 0, 1);
        Twins.asked(() -> toTurn(37, 46), MAY_NOT, "swap", 1, 0);
        Twins.asked(() -> toTurn(36, 46), BAD, "turn", 3, 1, 1);
        Twins.asked(() -> toTurn(36, 46), NONE, "turn", 4, 1, 0);
    }

    /** "No LOCKED one is turned (from i to j)": LOCKED ahead of i or behind j doesn't matter. */
    private static void promise23Locked() {
        for (int locked = 0; locked < 5; locked++) {
            WindowRounds w = new WindowRounds();
            for (int s = 0; s < 5; s++) {
                w.stop(33 + s, 32, 1, 0, 999, 0);
                w.put(s, 1, s);
            }
            w.lock(locked, true);
            for (int i = 0; i < 5; i++) {
                for (int j = i + 1; j < 5; j++) {
                    boolean isTurned = i <= locked && locked <= j;
                    Check.due("turn " + i + " to " + j + " with " + locked + " LOCKED", w.turn(1, i, j) == MAY_NOT ? 1 : 0,
                            isTurned ? 1 : 0);
                    Check.due("swap " + i + ", " + j, w.swap(i, j) == MAY_NOT ? 1 : 0, i == locked || j == locked ? 1 : 0);
                    Check.due("shift " + i + " to " + j, w.shift(i, 1, j) == MAY_NOT ? 1 : 0, i == locked ? 1 : 0);
                }
                Calls.due(w, BAD, "turn", 1, i, i);
                Calls.due(w, BAD, "shift", i, 1, i);
                Calls.due(w, NONE, "swap", i, i);
            }
        }
    }

    /** "NONE: stop, round; STATE: it is in no ROUND; BAD: k (where it is, too)": the first that is named. */
    private static void promise24Refused() {
        for (int s : BEYOND_STOPS) {
            Twins.refused(Twins::busy, NONE, "shift", s, 0, 0);
            Twins.refused(Twins::busy, NONE, "shift", s, 4, 99);
        }
        for (int r : BEYOND_ROUNDS) {
            Twins.refused(Twins::busy, NONE, "shift", 0, r, 0);
            Twins.refused(Twins::busy, NONE, "shift", 5, r, 0);
            Twins.refused(Twins::busy, NONE, "shift", 0, r, 99);
        }
        for (int r = 0; r < 4; r++) {
            Twins.refused(Twins::busy, STATE, "shift", 5, r, 0);
            Twins.refused(Twins::busy, STATE, "shift", 5, r, -1);
            Twins.refused(Twins::busy, STATE, "shift", 4, r, 99);
            for (int k : new int[] {-1, SIZES[r] + 1, 16, LEAST, MOST}) {
                Twins.refused(Twins::busy, BAD, "shift", 1, r, k);
                Twins.refused(Twins::busy, BAD, "shift", 3, r, k);
            }
        }
        Twins.refused(Twins::busy, BAD, "shift", 1, 0, 0);
        Twins.refused(Twins::busy, BAD, "shift", 0, 0, 1);
        Twins.refused(Twins::busy, BAD, "shift", 2, 0, 2);
        Twins.refused(Twins::busy, BAD, "shift", 0, 0, 3);
        Twins.refused(Twins::busy, BAD, "shift", 3, 1, 0);
        Twins.refused(Twins::busy, BAD, "shift", 3, 1, 1);
        Twins.asked(Twins::busy, MAY_NOT, "shift", 3, 0, 0);
        Twins.asked(Twins::busy, MAY_NOT, "shift", 3, 0, 3);
        Twins.asked(Twins::busy, 4, "shift", 0, 0, 0);
    }

    /** "k by how it is without it": what shift() GAINS is what COST is less when it is taken and put there by hand. */
    private static void promise24Places() {
        for (int s = 0; s < 4; s++) {
            for (int r = 0; r < 4; r++) {
                int top = Check.onALine().of(s, 6) == r ? Check.onALine().round(r, 3) - 1 : Check.onALine().round(r, 3);
                for (int k = 0; k <= top; k++) {
                    WindowRounds w = Check.onALine();
                    w.price(1, 5);
                    boolean isThere = w.of(s, 6) == r && w.of(s, 7) == k;
                    int gains = w.shift(s, r, k);
                    int cost = w.told(0);
                    w.take(s);
                    w.put(s, r, k);
                    Check.due(Calls.row("shift", s, r, k), gains, isThere ? BAD : cost - w.told(0));
                }
                Calls.due(Check.onALine(), BAD, "shift", s, r, top + 1);
            }
        }
    }

    /** 0 in ROUND 0, 1 in ROUND 1 (both 10 off, LOADS 5 and 6): each MOVE to the other ROUND is just so. */
    private static WindowRounds toShift(int last, int home, int room) {
        WindowRounds w = new WindowRounds();
        w.stop(42, 32, 5, 0, 999, 4);
        w.stop(22, 32, 6, 0, last, 3);
        w.put(0, 0, 0);
        w.put(1, 1, 0);
        w.rule(1, 2, home);
        w.rule(1, 0, room);
        return w;
    }

    private static void promise24JustMay() {
        Twins.asked(() -> toShift(34, 47, 11), 0, "shift", 0, 1, 0);
        Twins.asked(() -> toShift(33, 47, 11), MAY_NOT, "shift", 0, 1, 0);
        Twins.asked(() -> toShift(34, 46, 11), MAY_NOT, "shift", 0, 1, 0);
        Twins.asked(() -> toShift(34, 47, 10), MAY_NOT, "shift", 0, 1, 0);
        Twins.asked(() -> toShift(10, 47, 11), 0, "shift", 0, 1, 1);
        Twins.asked(() -> toShift(10, 46, 11), MAY_NOT, "shift", 0, 1, 1);
        Twins.asked(() -> toShift(10, 47, 11), 0, "shift", 0, 2, 0);
        Twins.Making noSlack = Twins.after(() -> toShift(10, 47, 11), w -> {
            w.stop(42, 32, 0, 4, 14, 0);
            w.put(2, 0, 1);
            w.rule(0, 2, 24);
        });
        Calls.due(noSlack.make(), 0, "round", 0, 9);
        Twins.asked(noSlack, -20, "shift", 0, 2, 0);
        Twins.asked(noSlack, -20, "shift", 2, 2, 0);
        Twins.asked(Twins.after(noSlack, w -> w.set(0, 4, 10)), -20, "shift", 2, 3, 0);
        Twins.asked(() -> toShift(10, 46, 10), BAD, "shift", 0, 1, 2);
        Twins.asked(() -> toShift(10, 46, 10), BAD, "shift", 0, 0, 0);
    }

    /** "NONE: none such, or the same; STATE: one is in no ROUND": the first that is named. */
    private static void promise25Refused() {
        for (int s : BEYOND_STOPS) {
            Twins.refused(Twins::busy, NONE, "swap", s, 0);
            Twins.refused(Twins::busy, NONE, "swap", 0, s);
            Twins.refused(Twins::busy, NONE, "swap", s, 5);
            Twins.refused(Twins::busy, NONE, "swap", 5, s);
            Twins.refused(Twins::busy, NONE, "swap", s, s);
        }
        for (int s = 0; s < 6; s++) {
            Twins.refused(Twins::busy, NONE, "swap", s, s);
        }
        for (int s = 0; s < 5; s++) {
            Twins.refused(Twins::busy, STATE, "swap", s, 5);
            Twins.refused(Twins::busy, STATE, "swap", 5, s);
        }
        Twins.asked(Twins::busy, MAY_NOT, "swap", 3, 1);
        Twins.asked(Twins::busy, MAY_NOT, "swap", 1, 3);
        Twins.asked(Twins::busy, 4, "swap", 0, 1);
        Twins.asked(Twins::busy, 4, "swap", 1, 0);
    }

    /** Both ROUNDS have to HOLD: LAST, HOME and ROOM of either, just so and one less. */
    private static WindowRounds toSwap(int last, int home, int room, int leave) {
        WindowRounds w = toShift(last, 1999, 20);
        w.rule(0, 2, home);
        w.rule(0, 0, room);
        w.rule(0, 1, leave);
        return w;
    }

    private static void promise25JustMay() {
        Twins.asked(() -> toSwap(17, 31, 6, 7), 0, "swap", 0, 1);
        Twins.asked(() -> toSwap(17, 31, 6, 7), 0, "swap", 1, 0);
        Twins.asked(() -> toSwap(16, 31, 6, 7), MAY_NOT, "swap", 0, 1);
        Twins.asked(() -> toSwap(16, 31, 6, 7), MAY_NOT, "swap", 1, 0);
        Twins.asked(() -> toSwap(17, 31, 5, 7), MAY_NOT, "swap", 0, 1);
        Twins.asked(() -> toShift(999, 24, 6), 0, "swap", 0, 1);
        Twins.asked(() -> toShift(999, 23, 6), MAY_NOT, "swap", 0, 1);
        Twins.asked(() -> toShift(999, 23, 6), MAY_NOT, "swap", 1, 0);
        Twins.Making heavier = Twins.after(() -> toShift(999, 24, 6), w -> w.set(0, 2, 6));
        Twins.asked(heavier, 0, "swap", 0, 1);
        Twins.asked(Twins.after(heavier, w -> w.set(0, 2, 7)), MAY_NOT, "swap", 0, 1);
        Twins.asked(Twins.after(heavier, w -> w.set(0, 2, 7)), MAY_NOT, "swap", 1, 0);
    }

    /** None waits: 0 comes first, 1 behind it 9 further, and the other way about just in time. */
    private static WindowRounds noneWaits(int lastOf0, int lastOf1, int home) {
        WindowRounds w = new WindowRounds();
        w.stop(42, 32, 1, 0, lastOf0, 3);
        w.stop(37, 36, 1, 0, lastOf1, 5);
        w.put(0, 3, 0);
        w.put(1, 3, 1);
        w.rule(3, 2, home);
        return w;
    }

    private static void promise25JustMayOfOneRound() {
        for (Object[] call : new Object[][] {{"swap", 0, 1}, {"swap", 1, 0}, {"turn", 3, 0, 1}, {"shift", 0, 3, 1},
            {"shift", 1, 3, 0}}) {
            String name = (String) call[0];
            Object[] all = java.util.Arrays.copyOfRange(call, 1, call.length);
            Twins.asked(() -> noneWaits(23, 22, 36), 0, name, all);
            Twins.asked(() -> noneWaits(22, 22, 36), MAY_NOT, name, all);
            Twins.asked(() -> noneWaits(999, 22, 36), 0, name, all);
        }
        Calls.due(noneWaits(999, 22, 36), 0, "round", 3, 9);
    }

    /** "NONE; BAD: d (0 .. 1999)". */
    private static void promise26Refused() {
        for (int r : BEYOND_ROUNDS) {
            Twins.refused(Twins::busy, NONE, "late", r, 0);
            Twins.refused(Twins::busy, NONE, "late", r, -1);
            Twins.refused(Twins::busy, NONE, "late", r, 2000);
        }
        for (int r = 0; r < 4; r++) {
            for (int d : new int[] {-1, 2000, LEAST, MOST}) {
                Twins.refused(Twins::busy, BAD, "late", r, d);
            }
            Twins.asked(Twins::busy, NIL, "late", r, 0);
            Twins.asked(Twins::busy, r < 2 ? 0 : NIL, "late", r, 1998);
            Twins.asked(Twins::busy, r < 2 ? 0 : NIL, "late", r, r < 3 ? 1999 : 999);
        }
    }

    /** 0, 1, 2 each 10 further, till lasts; back at 60 (2 waits till 40). */
    private static WindowRounds ofThree(int home, int... lasts) {
        WindowRounds w = new WindowRounds();
        for (int s = 0; s < 3; s++) {
            w.stop(42 + 10 * s, 32, 1, s == 2 ? 40 : 0, lasts[s], 0);
            w.put(s, 2, s);
        }
        w.rule(2, 2, home);
        return w;
    }

    /** "the first STOP of a ROUND (its place) at which it would not be in time ..; as many as it has, if just HOME wouldn't". */
    private static void promise26JustLate() {
        for (int place = 0; place <= 3; place++) {
            int[] lasts = {999, 999, 999};
            if (place < 3) {
                lasts[place] = 50 + 10 * place;
            }
            WindowRounds w = ofThree(place == 3 ? 100 : 1999, lasts);
            int slack = new int[] {40, 40, 40, 40}[place];
            Calls.due(w, NIL, "late", 2, 0);
            Calls.due(w, NIL, "late", 2, slack);
            Calls.due(w, place, "late", 2, slack + 1);
            Calls.due(w, slack, "round", 2, 9);
            w.rule(2, 1, 7);
            Calls.due(w, NIL, "late", 2, slack - 7);
            Calls.due(w, place, "late", 2, slack - 6);
        }
        WindowRounds w = ofThree(75, 25, 33, 41);
        int[] due = {NIL, NIL, 2, 2, 1, 1, 0};
        int[] by = {0, 11, 12, 13, 14, 15, 16};
        for (int i = 0; i < due.length; i++) {
            Calls.due(w, due[i], "late", 2, by[i]);
        }
        Calls.due(w, 0, "late", 2, 1999);
        w = ofThree(71, 25, 33, 41);
        Calls.due(w, NIL, "late", 2, 10);
        Calls.due(w, NIL, "late", 2, 11);
        Calls.due(w, 2, "late", 2, 12);
        w = ofThree(70, 25, 33, 41);
        Calls.due(w, 3, "late", 2, 11);
        Calls.due(w, 2, "late", 2, 12);
        w = ofThree(1999, 999, 999, 999);
        Calls.due(w, NIL, "late", 2, 969);
        Calls.due(w, 2, "late", 2, 970);
        Calls.due(w, 2, "late", 2, 979);
        Calls.due(w, 1, "late", 2, 980);
        Calls.due(w, 0, "late", 2, 990);
    }

    /** LATE is of times alone: ROOM that is just full makes none. */
    private static void promise26RoomIsNotAsked() {
        WindowRounds w = ofThree(1999, 999, 999, 999);
        w.rule(2, 0, 3);
        Calls.due(w, NIL, "late", 2, 969);
        w.clear(2);
        w.rule(2, 0, 0);
        Calls.due(w, NIL, "late", 2, 969);
    }

    /** HOLDS: "one without STOPS always does"; LATE: "-5: none": by each d, however far behind HOME that is. */
    private static void promise26WithoutStops() {
        int calls = 400;
        for (int from = 0; from < 2000; from += calls) {
            WindowRounds w = homeAheadOfLeaving(new WindowRounds());
            for (int d = from; d < from + calls; d++) {
                Calls.due(w, NIL, "late", d % 4, d);
            }
        }
        for (int d : new int[] {-1, 2000, LEAST, MOST}) {
            Twins.refused(() -> homeAheadOfLeaving(new WindowRounds()), BAD, "late", 0, d);
        }
        for (int r : BEYOND_ROUNDS) {
            Twins.refused(() -> homeAheadOfLeaving(new WindowRounds()), NONE, "late", r, 0);
            Twins.refused(() -> homeAheadOfLeaving(new WindowRounds()), NONE, "late", r, 2000);
        }
    }

    /** HOME 0 and LEAVE 999 of each ROUND that has no STOPS. */
    private static WindowRounds homeAheadOfLeaving(WindowRounds w) {
        for (int r = 0; r < 4; r++) {
            w.rule(r, 2, 0);
            w.rule(r, 1, 999);
        }
        return w;
    }

    /** It may have had STOPS: what is taken, cleared, shifted away or undone isn't late any more. */
    private static void promise26EmptiedRounds() {
        for (Twins.Deed deed : Twins.EMPTYINGS) {
            WindowRounds w = Check.onALine();
            Calls.due(w, 0, "late", 1, 1999);
            deed.on(w);
            Calls.due(w, 0, "round", 1, 3);
            homeAheadOfLeaving(w);
            for (int d : new int[] {0, 1, 999, 1000, 1998, 1999}) {
                Calls.due(w, NIL, "late", 1, d);
            }
        }
    }

    /** "The k-th of DUE. BAD: there is none". */
    private static void promise27Refused() {
        int[] due = {3, 0, 2, 1, 4, 5};
        for (int k = 0; k < 6; k++) {
            Twins.asked(Twins::busy, due[k], "due", k);
        }
        for (int k : new int[] {-1, 6, 15, 16, LEAST, MOST}) {
            Twins.refused(Twins::busy, BAD, "due", k);
        }
        for (int k : new int[] {-1, 0, 1}) {
            Twins.refused(WindowRounds::new, BAD, "due", k);
        }
        WindowRounds w = Twins.full();
        for (int k = 0; k < 16; k++) {
            Calls.due(w, k, "due", k);
        }
        Calls.due(w, BAD, "due", 16);
    }

    /** "STOPS by LAST, of like ones by FIRST, then by number". */
    private static void promise27Like() {
        int[][] windows = {{5, 10}, {4, 10}, {5, 9}, {5, 10}, {4, 10}, {0, 11}, {9, 9}};
        int[] due = {2, 6, 1, 4, 0, 3, 5};
        WindowRounds w = new WindowRounds();
        for (int[] window : windows) {
            w.stop(32, 32, 0, window[0], window[1], 0);
        }
        for (int k = 0; k < due.length; k++) {
            Calls.due(w, due[k], "due", k);
        }
        w.put(3, 0, 0);
        w.set(3, 3, 3);
        Calls.due(w, 3, "due", 2);
        w.set(3, 4, 8);
        Calls.due(w, 3, "due", 0);
        Calls.due(w, BAD, "due", 7);
    }
}
