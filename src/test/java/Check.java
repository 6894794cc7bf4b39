/** What the tests share: answers that aren't due are told, and counted. */
public final class Check {
    private static int right;
    private static int wrong;

    private Check() {
    }

    public static void due(String what, long got, long want) {
        if (got == want) {
            right++;
            return;
        }
        wrong++;
        System.out.println(what + " answered " + got + ", due is " + want);
    }

    static void holds(String what, boolean isSo) {
        due(what, isSo ? 1 : 0, 1);
    }

    static void end(String test) {
        System.out.println(test + ": " + right + " right, " + wrong + " wrong");
        if (wrong != 0) {
            System.exit(1);
        }
    }

    /** Feeds a text sign by sign. */
    static void feed(WindowRounds w, String text) {
        for (int i = 0; i < text.length(); i++) {
            due("feed of sign " + i + " of " + text, w.feed(text.charAt(i)), i + 1);
        }
    }

    /** The STOPS of a ROUND as a text, and that nothing is behind them. */
    static void row(WindowRounds w, int round, int... stops) {
        due("how many STOPS ROUND " + round + " has", w.round(round, 3), stops.length);
        for (int k = 0; k < stops.length; k++) {
            due("at(" + round + ", " + k + ")", w.at(round, k), stops[k]);
        }
        due("at(" + round + ", " + stops.length + ")", w.at(round, stops.length), WindowRounds.BAD);
    }

    /** 1, 0, 2 on a line in ROUND 0, once more there and back than it must be, and 3 in ROUND 1: COST 96. */
    static WindowRounds onALine() {
        WindowRounds w = new WindowRounds();
        w.stop(40, 32, 1, 0, 999, 0);
        w.stop(48, 32, 1, 0, 999, 0);
        w.stop(56, 32, 1, 0, 999, 0);
        w.stop(32, 48, 1, 0, 999, 0);
        w.put(1, 0, 0);
        w.put(0, 0, 1);
        w.put(2, 0, 2);
        w.put(3, 1, 0);
        return w;
    }

    /** ROUNDS 0 and 1 are full, with one STOP each at either side of THE DEPOT: just a SWAP mends it. */
    static WindowRounds ofTwoSides() {
        WindowRounds w = new WindowRounds();
        w.stop(62, 32, 10, 0, 999, 0);
        w.stop(2, 32, 10, 0, 999, 0);
        w.stop(61, 32, 10, 0, 999, 0);
        w.stop(3, 32, 10, 0, 999, 0);
        w.rule(2, 0, 0);
        w.rule(3, 0, 0);
        w.put(0, 1, 0);
        w.put(3, 1, 1);
        w.put(1, 0, 0);
        w.put(2, 0, 1);
        return w;
    }
}
