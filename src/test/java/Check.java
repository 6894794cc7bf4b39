/** What the tests share: answers that aren't due are told, and counted. */
public final class Check {
    private static int right;
    private static int wrong;

    private Check() {
    }

    static void due(String what, long got, long want) {
        if (got == want) {
            right++;
            return;
        }
        wrong++;
        System.out.println(what + " answered " + got + ", due is " + want);
    }

    static void holds(String what, boolean isSo) {
        due(what, isSo ? 1 : 0, 1);
    }

    static void end(String test) {
        System.out.println(test + ": " + right + " right, " + wrong + " wrong");
        if (wrong != 0) {
            System.exit(1);
        }
    }

    /** Feeds a text sign by sign. */
    static void feed(WindowRounds w, String text) {
        for (int i = 0; i < text.length(); i++) {
            due("feed of sign " + i + " of " + text, w.feed(text.charAt(i)), i + 1);
        }
    }

    /** The STOPS of a ROUND as a text, and that nothing is behind them. */
    static void row(WindowRounds w, int round, int... stops) {
        due("how many STOPS ROUND " + round + " has", w.round(round, 3), stops.length);
        for (int k = 0; k < stops.length; k++) {
            due("at(" + round + ", " + k + ")", w.at(round, k), stops[k]);
        }
        due("at(" + round + ", " + stops.length + ")", w.at(round, stops.length), WindowRounds.BAD);
    }
}
