/** Promises 28 to 33: what is SEEN and what FITS it, ODDS, MEAN, draws. */
public final class SeenTest {
    private static final int NONE = -1, BAD = -2, FULL = -4, NIL = -5;
    private static final long NO = Long.MIN_VALUE;

    private SeenTest() {
    }

    public static void main(String[] args) {
        promise28See();
        promise29Fits();
        promise29FitsByHome();
        promise30Odds();
        promise31Mean();
        promise32Drawn();
        promise32DrawnBesideOthers();
        promise32DrawnByNumbers();
        promise33Chance();
        Check.end("SeenTest");
    }

    private static void promise28See() {
        WindowRounds w = new WindowRounds();
        Check.due("no STOP", w.see(0, 5), NONE);
        w.stop(42, 32, 1, 0, 999, 0);
        Check.due("no such STOP", w.see(1, 5), NONE);
        Check.due("no such STOP", w.see(-2, 5), NONE);
        Check.due("NONE is ahead of BAD", w.see(1, -5), NONE);
        Check.due("minute below", w.see(0, -1), BAD);
        Check.due("minute above", w.see(0, 2000), BAD);
        Check.due("nothing is seen", w.count(1), 0);
        for (int i = 1; i <= 5; i++) {
            Check.due("row " + i, w.see(0, i % 2 == 0 ? 0 : 1999), i);
        }
        Check.due("row 6", w.see(0, 5), FULL);
        Check.due("BAD is ahead of FULL", w.see(0, -1), BAD);
        Check.due("five", w.count(1), 5);
        Check.due("none again", w.see(-1, -99), 0);
        Check.due("none", w.count(1), 0);
        Check.due("the first again", w.see(0, 5), 1);
        Check.due("none again", w.see(-1, 5), 0);
    }

    /** 0 at 42,32 from 30 till 60, 1 at 52,32 till 80: leaves till 50, begins 30 and 40 up to leaving at 20. */
    private static WindowRounds ofTwo() {
        WindowRounds w = new WindowRounds();
        w.stop(42, 32, 1, 30, 60, 0);
        w.stop(52, 32, 1, 0, 80, 0);
        w.stop(2, 2, 1, 0, 999, 0);
        w.put(0, 2, 0);
        w.put(1, 2, 1);
        return w;
    }

    private static void fits(WindowRounds w, int round, int many, int least) {
        Check.due("how many fit", w.fits(round, 0), many);
        Check.due("the least that fits", w.fits(round, 1), least);
    }

    private static void promise29Fits() {
        WindowRounds w = ofTwo();
        Check.due("no such ROUND", w.fits(4, 0), NONE);
        Check.due("no such ROUND", w.fits(-1, 0), NONE);
        Check.due("no such what", w.fits(0, 2), NONE);
        Check.due("no such what", w.fits(0, -1), NONE);
        fits(w, 2, 51, 0);
        fits(w, 0, 100, 0);
        w.see(0, 30);
        fits(w, 2, 21, 0);
        w.see(2, 7);
        fits(w, 2, 21, 0);
        fits(w, 0, 100, 0);
        w.see(1, 40);
        fits(w, 2, 21, 0);
        w.see(1, 41);
        fits(w, 2, 0, NIL);
        w.see(-1, 0);
        w.see(1, 55);
        fits(w, 2, 1, 35);
        w.rule(2, 1, 12);
        fits(w, 2, 1, 35);
        Check.due("it leaves as it did", w.round(2, 1), 12);
        w.see(0, 45);
        fits(w, 2, 1, 35);
        w.see(0, 46);
        fits(w, 2, 0, NIL);
        w.see(-1, 0);
        w.set(0, 4, 999);
        w.set(1, 4, 999);
        fits(w, 2, 100, 0);
        w.see(1, 119);
        fits(w, 2, 1, 99);
        w.see(-1, 0);
        w.see(1, 120);
        fits(w, 2, 0, NIL);
    }

    private static void promise29FitsByHome() {
        WindowRounds w = ofTwo();
        w.rule(2, 2, 70);
        fits(w, 2, 31, 0);
        w.clear(2);
        w.rule(2, 2, 0);
        fits(w, 2, 100, 0);
    }

    private static void promise30Odds() {
        WindowRounds w = new WindowRounds();
        Check.due("no STOPS", w.odds(0), NO);
        int[] loads = {7, 1, 9, 9, 3, 7};
        for (int load : loads) {
            w.stop(42, 32, load, 0, 999, 0);
        }
        for (int r = 0; r < 4; r++) {
            w.rule(r, 0, r == 2 ? 8 : 0);
        }
        Check.due("no such part", w.odds(2), NO);
        Check.due("no such part", w.odds(-1), NO);
        Check.due("four of six, above", w.odds(0), 2);
        Check.due("four of six, below", w.odds(1), 3);
        w.put(0, 2, 0);
        Check.due("one of five, above", w.odds(0), 1);
        Check.due("one of five, below", w.odds(1), 5);
        w.put(1, 2, 0);
        Check.due("none of four, above", w.odds(0), 0);
        Check.due("none of four, below", w.odds(1), 1);
        for (int r = 0; r < 4; r++) {
            w.rule(r, 0, 60);
        }
        Check.due("all, above", w.odds(0), 1);
        Check.due("all, below", w.odds(1), 1);
        for (int only = 0; only < 4; only++) {
            for (int r = 0; r < 4; r++) {
                w.rule(r, 0, r == only ? 60 : r == 2 ? 8 : 0);
            }
            Check.due("all by one ROUND alone", w.odds(1), 1);
        }
        w.fill();
        Check.due("all are in ROUNDS", w.odds(0), NO);
        Check.due("all are in ROUNDS", w.odds(1), NO);
        Check.due("no WORK but the one", w.count(5), 1);
    }

    private static void promise31Mean() {
        WindowRounds w = ofTwo();
        Check.due("no such part", w.mean(2), NO);
        Check.due("no such part", w.mean(-1), NO);
        Check.due("20 by 2, above", w.mean(0), 10);
        Check.due("20 by 2, below", w.mean(1), 1);
        w.put(2, 0, 0);
        Check.due("20 by 3, above", w.mean(0), 20);
        Check.due("20 by 3, below", w.mean(1), 3);
        w.set(2, 3, 64);
        Check.due("24 by 3, above", w.mean(0), 8);
        Check.due("24 by 3, below", w.mean(1), 1);
        w.rule(2, 1, 20);
        w.rule(0, 1, 4);
        Check.due("0 by 3, above", w.mean(0), 0);
        Check.due("0 by 3, below", w.mean(1), 1);
        w.clear(0);
        w.clear(2);
        Check.due("none is in a ROUND", w.mean(0), NO);
        Check.due("none is in a ROUND", w.mean(1), NO);
    }

    private static void promise32Drawn() {
        WindowRounds w = new WindowRounds();
        Check.due("n below", w.drawn(1, -1), BAD);
        Check.due("n above", w.drawn(1, 9), BAD);
        Check.due("none more", w.drawn(1, 0), 0);
        for (int r = 0; r < 4; r++) {
            w.rule(r, 2, 0);
        }
        Check.due("all stay out", w.drawn(1, 8), 8);
        for (int s = 0; s < 11; s++) {
            w.stop(42, 32, 1, 0, 999, 0);
        }
        Check.due("five have room", w.drawn(Integer.MIN_VALUE, 8), 16);
        Check.due("three more", w.drawn(-7, 3), 14);
        Check.due("nothing comes", w.count(0), 11);
        Check.due("nothing is filled", w.told(2), 11);
        Check.due("each is counted", w.count(5), 4);
    }

    /** What is loose already is filled with what is drawn. */
    private static void promise32DrawnBesideOthers() {
        WindowRounds w = new WindowRounds();
        w.stop(42, 32, 1, 0, 999, 0);
        Check.due("it finds room", w.drawn(5, 0), 0);
        Check.due("but in thought alone", w.told(2), 1);
        w.stop(42, 32, 1, 0, 9, 0);
        Check.due("one is too far", w.drawn(5, 0), 1);
    }

    /** The numbers once more, by long arithmetic: other STOPS put by hand must be filled alike. */
    private static void promise32DrawnByNumbers() {
        int[] spreads = {64, 64, 10, 400, 200, 20};
        int left = 0;
        for (int seed = -40; seed < 40; seed++) {
            WindowRounds w = new WindowRounds();
            WindowRounds byHand = new WindowRounds();
            long z = seed * 50_000_017L & 0xffffffffL;
            int given = (int) z;
            for (int i = 0; i < 8; i++) {
                int[] f = new int[6];
                for (int what = 0; what < 6; what++) {
                    z = z * 1103515245L + 12345 & 0xffffffffL;
                    f[what] = (int) ((z >> 9) % spreads[what]);
                }
                Check.due("drawn by hand", byHand.stop(f[0], f[1], f[2], f[3], f[3] + 20 + f[4], f[5]), i);
            }
            for (int r = 0; r < 4; r++) {
                w.rule(r, 0, r == 0 ? 9 : 6);
                byHand.rule(r, 0, r == 0 ? 9 : 6);
            }
            byHand.fill();
            left += byHand.told(2);
            Check.due("drawn by " + given, w.drawn(given, 8), byHand.told(2));
        }
        Check.holds("some were left", left > 80);
    }

    private static void promise33Chance() {
        WindowRounds w = new WindowRounds();
        Check.due("n below", w.chance(1, -1, 1, 0), BAD);
        Check.due("n above", w.chance(1, 9, 1, 0), BAD);
        Check.due("m below", w.chance(1, 8, 0, 0), BAD);
        Check.due("m above", w.chance(1, 8, 5, 0), BAD);
        Check.due("part below", w.chance(1, 8, 1, -1), BAD);
        Check.due("part above", w.chance(1, 8, 1, 2), BAD);
        Check.due("nothing counted", w.count(5), 0);
        Check.due("no STOPS, above", w.chance(1, 0, 4, 0), 1);
        Check.due("no STOPS, below", w.chance(1, 0, 4, 1), 1);
        Check.due("m are counted", w.count(5), 8);
        Check.due("eight more", w.chance(1, 8, 1, 1), 1);
        for (int r = 0; r < 4; r++) {
            w.rule(r, 0, 10);
        }
        int spent = 9;
        int mixed = 0;
        int[] seeds = {0, 7, -3, Integer.MAX_VALUE - 1, 100, 200, 300};
        for (int seed : seeds) {
            int none = 0;
            for (int i = 0; i < 4; i++) {
                none += w.drawn(seed + i, 7) == 0 ? 1 : 0;
            }
            mixed += none % 4 == 0 ? 0 : 1;
            int by = none % 4 == 0 ? 4 : none % 2 == 0 ? 2 : 1;
            Check.due("above", w.chance(seed, 7, 4, 0), none / by);
            Check.due("below", w.chance(seed, 7, 4, 1), 4 / by);
            spent += 12;
            Check.due("WORK", w.count(5), spent);
        }
        Check.holds("some were mixed", mixed > 0);
        Check.due("nothing comes", w.count(0), 0);
        promise33ChanceOfNone();
    }

    private static void promise33ChanceOfNone() {
        WindowRounds w = new WindowRounds();
        w.stop(42, 32, 1, 0, 9, 0);
        Check.due("never, above", w.chance(1, 0, 3, 0), 0);
        Check.due("never, below", w.chance(1, 0, 3, 1), 1);
    }
}
