import java.util.ArrayList;
import java.util.List;

/** Objects of one making: one of them is refused or asked something more, and all that can be seen must be alike. */
public final class Twins {
    /** Makes an object, each time the same. */
    interface Making {
        WindowRounds make();
    }

    /** Does something with an object. */
    interface Deed {
        void on(WindowRounds w);
    }

    /** Each leaves ROUND 1 of Check.onALine() without STOPS: taken, cleared, shifted to another one, or undone. */
    static final Deed[] EMPTYINGS = {w -> w.take(3), w -> w.clear(1), Twins::shiftAway, Twins::undoPut};

    private interface Look {
        void at(WindowRounds w, List<String> told);
    }

    /** Each look has objects of its own, as what one asks might change what another one sees. */
    private static final Look IMAGE = Twins::image;
    private static final Look[] LOOKS = {Twins::present, Twins::rowsAndText, Twins::tapes, IMAGE};

    private Twins() {
    }

    /** A call is refused so, and nothing has changed. */
    static void refused(Making making, long due, String name, Object... all) {
        Calls.due(making.make(), due, name, all);
        alike(Calls.row(name, all), after(making, w -> Calls.answer(w, name, all)), making);
    }

    /** A call is answered so, and nothing has changed. */
    static void asked(Making making, long due, String name, Object... all) {
        refused(making, due, name, all);
    }

    /** A call is answered so, and nothing has changed but so much WORK. */
    static void thought(Making making, long due, int work, String name, Object... all) {
        Calls.due(making.make(), due, name, all);
        alike(Calls.row(name, all), after(making, w -> Calls.answer(w, name, all)), making, work);
    }

    static Making after(Making making, Deed deed) {
        return () -> {
            WindowRounds w = making.make();
            deed.on(w);
            return w;
        };
    }

    static void alike(String what, Making one, Making other) {
        alike(what, one, other, 0);
    }

    private static void alike(String what, Making one, Making other, int work) {
        Check.due("WORK by " + what, one.make().count(5), other.make().count(5) + work);
        for (Look look : LOOKS) {
            compare(what, one, other, look);
        }
    }

    /** All but THE IMAGE is alike. */
    static void alikeNow(String what, Making one, Making other) {
        Check.due("WORK by " + what, one.make().count(5), other.make().count(5));
        for (Look look : LOOKS) {
            if (look != IMAGE) {
                compare(what, one, other, look);
            }
        }
    }

    private static void compare(String what, Making one, Making other, Look look) {
        List<String> got = new ArrayList<>();
        List<String> want = new ArrayList<>();
        look.at(one.make(), got);
        look.at(other.make(), want);
        Check.due("how much can be seen behind " + what, got.size(), want.size());
        for (int i = 0; i < want.size(); i++) {
            String as = i < got.size() ? got.get(i) : "nothing";
            Check.holds("behind " + what + " " + as + ", due is " + want.get(i), as.equals(want.get(i)));
        }
    }

    private static void tell(WindowRounds w, List<String> told, String name, Object... all) {
        told.add(Calls.row(name, all) + " = " + Calls.answer(w, name, all));
    }

    private static void each(WindowRounds w, List<String> told, String name, int to) {
        for (int what = 0; what < to; what++) {
            tell(w, told, name, what);
        }
    }

    /** All that is as it is, by calls that change nothing. */
    private static void present(WindowRounds w, List<String> told) {
        each(w, told, "count", 5);
        each(w, told, "told", 6);
        each(w, told, "taken", 5);
        each(w, told, "odds", 2);
        each(w, told, "mean", 2);
        tell(w, told, "looked");
        tell(w, told, "far", 0, 0, 3, 4);
        int stops = w.count(0);
        for (int s = 0; s < stops; s++) {
            tell(w, told, "due", s);
            for (int what = 0; what < 12; what++) {
                tell(w, told, "of", s, what);
            }
        }
        for (int r = 0; r < 4; r++) {
            for (int what = 0; what < 10; what++) {
                tell(w, told, "round", r, what);
            }
            int size = w.round(r, 3);
            for (int k = 0; k <= size; k++) {
                tell(w, told, "at", r, k);
            }
            tell(w, told, "fits", r, 0);
            tell(w, told, "fits", r, 1);
        }
    }

    /** The rows of the PLAN and of SEEN, THE TEXT, FIXED and THE DEPOT, as far as the other looks don't see them. */
    private static void rowsAndText(WindowRounds w, List<String> told) {
        each(w, told, "ends", 2);
        tell(w, told, "price", 1, 1);
        for (int r = 0; r < 4; r++) {
            for (int k = w.round(r, 3) - 1; k >= 0; k--) {
                w.lock(w.at(r, k), false);
                tell(w, told, "take", w.at(r, k));
            }
        }
        tell(w, told, "depot", 0, 0);
        tell(w, told, "depot", 63, 0);
        each(w, told, "ends", 2);
        int stops = w.count(0);
        for (int s = 0; s < stops; s++) {
            w.set(s, 4, 999);
            w.set(s, 3, 0);
            w.put(s, s % 4, 0);
            tell(w, told, "fits", s % 4, 0);
            w.take(s);
        }
        tell(w, told, "read");
        for (int s = 0; s < stops + 6; s++) {
            tell(w, told, "of", s, 0);
            tell(w, told, "of", s, 2);
        }
        for (int n = w.count(2); n <= 8; n++) {
            tell(w, told, "plan", 0, 0);
            tell(w, told, "book", 0, 0);
            tell(w, told, "see", 0, 0);
        }
    }

    /** Sorts are told by what is left of a long; sizes by where there is no item any more. */
    private static void tapes(WindowRounds w, List<String> told) {
        for (int t = 0; t < 6; t++) {
            for (int i = 0; i < 8; i++) {
                tell(w, told, "peek", t, i);
            }
            tell(w, told, "peek", t, 59);
            tell(w, told, "item", t, 0, 0x123456789abcdef0L);
            tell(w, told, "peek", t, 0);
        }
    }

    private static void image(WindowRounds w, List<String> told) {
        tell(w, told, "undo");
        present(w, told);
        each(w, told, "ends", 2);
    }

    private static void shiftAway(WindowRounds w) {
        w.price(1, 99);
        w.improve(1);
    }

    private static void undoPut(WindowRounds w) {
        w.take(3);
        w.image();
        w.put(3, 1, 0);
        w.undo();
    }

    private static void feed(WindowRounds w, String text) {
        for (int i = 0; i < text.length(); i++) {
            w.feed(text.charAt(i));
        }
    }

    /** Some of everything: 1, 0, 2 in ROUND 0, 3 LOCKED in ROUND 1, 4 and 5 loose (4 COULD be nowhere); an older IMAGE. */
    static WindowRounds busy() {
        WindowRounds w = new WindowRounds();
        w.stop(40, 32, 3, 0, 100, 5);
        w.stop(50, 32, 4, 0, 999, 0);
        w.put(1, 2, 0);
        w.see(1, 20);
        w.plan(0, 0);
        w.book(2, 1);
        w.image();
        w.take(1);
        w.stop(32, 20, 2, 60, 300, 10);
        w.stop(30, 40, 6, 20, 60, 3);
        w.stop(62, 1, 19, 0, 999, 0);
        w.stop(33, 33, 1, 0, 999, 1);
        w.price(0, 1);
        w.price(1, 3);
        w.depot(30, 33);
        w.put(1, 0, 0);
        w.put(0, 0, 1);
        w.put(2, 0, 2);
        w.put(3, 1, 0);
        w.lock(3, true);
        for (int r = 0; r < 4; r++) {
            w.rule(r, 0, 18);
        }
        w.rule(1, 1, 7);
        w.rule(0, 2, 500);
        w.see(-1, 0);
        w.see(2, 60);
        w.see(3, 20);
        w.plan(-1, 0);
        w.plan(3, 7);
        w.plan(1, 0);
        w.plan(2, 1);
        w.plan(0, 0);
        w.book(-1, 0);
        w.book(0, 3);
        w.book(1, 1);
        w.book(2, 0);
        feed(w, "5,6*2");
        for (int t = 0; t < 5; t++) {
            w.tape(t, t, 3 + t % 3);
            w.item(t, 1, 1000003L * t + 1);
            w.item(t, 2, -t);
        }
        w.best(0);
        return w;
    }

    /** All that has an end is at it: 16 STOPS (15 of them loose), 100 bytes, 5 SEEN, 8 rows of a PLAN and of a BOOK. */
    static WindowRounds full() {
        WindowRounds w = new WindowRounds();
        for (int s = 0; s < 16; s++) {
            w.stop(34 + s, 32, 1, 0, 999, 0);
        }
        w.put(0, 1, 0);
        for (int i = 0; i < 8; i++) {
            w.plan(2 + i % 2, 0);
            w.book(1, 1);
        }
        for (int i = 0; i < 5; i++) {
            w.see(0, 2);
        }
        feed(w, FULL_TEXT);
        return w;
    }

    /** 6 CLAUSES of 100 bytes, as many as THE TEXT may have. */
    static final String FULL_TEXT = "63,63*20@999-999+30;60,61*19@998-999+29;10,11*12@113-114+15;"
            + "16,17*18@119-120+21;22,23*04@5-6;25,26+7";

    /** So much WORK is done, all of it for nothing. */
    static WindowRounds spent(int work) {
        WindowRounds w = new WindowRounds();
        for (int left = work; left > 0; left -= 20) {
            w.improve(Math.min(left, 20));
        }
        return w;
    }
}
