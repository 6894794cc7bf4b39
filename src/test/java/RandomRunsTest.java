import java.lang.reflect.Method;
import java.util.ArrayList;
import java.util.Arrays;
import java.util.List;
import java.util.Map;
import java.util.Random;
import java.util.TreeMap;

/** Long runs of calls by fixed seeds, each answer compared with the Model's. */
public final class RandomRunsTest {
    private static final int CALLS = 512;
    private static final List<Method> CALLED = new ArrayList<>();
    private static final List<Method> MODELLED = new ArrayList<>();

    private final Random random;
    private final WindowRounds w = new WindowRounds();
    private final Model m = new Model();
    private final int side, wide, heavy, wildOneIn, dearOneIn, seldomOneIn;
    private final List<String> told = new ArrayList<>();

    private RandomRunsTest(int seed) {
        random = new Random(seed);
        side = pick(3, 8, 20, 64, 64);
        wide = pick(30, 200, 999);
        heavy = pick(3, 8, 21);
        wildOneIn = pick(8, 30, 200);
        dearOneIn = pick(1, 4, 10);
        seldomOneIn = pick(2, 8, 20);
    }

    private int pick(int... all) {
        return all[random.nextInt(all.length)];
    }

    private int up(int n) {
        return random.nextInt(n);
    }

    private int stop() {
        return up(m.now.stops.size() + 1);
    }

    private int loose() {
        for (int tries = 0; tries < 8; tries++) {
            int s = stop();
            if (m.now.roundOf(s) == Model.NIL) {
                return s;
            }
        }
        return stop();
    }

    private int placed() {
        for (int tries = 0; tries < 8; tries++) {
            int s = stop();
            if (m.now.roundOf(s) != Model.NIL) {
                return s;
            }
        }
        return stop();
    }

    private int place() {
        return near() + 32 < 0 ? 0 : Math.min(63, near() + 32);
    }

    private int near() {
        return up(side) - side / 2;
    }

    private int roundOfSome() {
        int r = up(4);
        return m.now.rows.get(r).isEmpty() ? up(4) : r;
    }

    private Object[] window() {
        int first = up(4) == 0 ? 0 : up(300);
        int last = Math.min(999, first + up(wide + 1));
        return new Object[] {place(), place(), up(heavy), first, last, up(12)};
    }

    private Object[] arguments(String name) {
        int r = roundOfSome();
        int size = m.now.rows.get(r).size();
        switch (name) {
            case "stop": return window();
            case "feed": return of(Integer.valueOf("0123456789,,,;;*@-+".charAt(up(19))));
            case "set": return set();
            case "of": return of(stop(), up(12));
            case "lock": return of(placed(), up(3) == 0);
            case "depot": return of(place(), place());
            case "rule": return up(3) == 0 ? of(r, 0, up(61)) : up(2) == 0 ? of(r, 1, up(100)) : of(r, 2, up(800));
            case "price": return up(2) == 0 ? of(0, up(3)) : of(1, up(100));
            case "put": case "adds": return of(loose(), r, up(size + 1));
            case "take": return of(placed());
            case "clear": return of(r);
            case "improve": return of(1 + up(5));
            case "round": return of(r, up(10));
            case "at": return of(r, up(size + 1));
            case "told": return of(up(6));
            case "far": return of(up(64), up(64), up(64), up(64));
            case "cheapest": return of(loose(), up(5) - 1, up(4));
            case "best": return of(up(5));
            case "turn": return turn(r, size);
            case "shift": return of(placed(), r, up(size + 1));
            case "swap": return of(placed(), placed());
            case "late": return of(r, up(3) == 0 ? up(2000) : up(300));
            case "due": return of(up(m.now.stops.size() + 1));
            case "see": return see();
            case "fits": return of(r, up(2));
            case "odds": case "mean": return of(up(2));
            case "drawn": return of(random.nextInt(), up(9));
            case "chance": return of(up(3) == 0 ? Integer.MAX_VALUE - up(2) : random.nextInt(), up(9), 1 + up(4), up(2));
            case "plan": return up(12) == 0 ? of(-1, up(9)) : up(3) == 0 ? of(2, stop()) : of(up(4), up(100));
            case "ends": return of(up(2));
            case "book": return up(12) == 0 ? of(-1, up(9)) : of(r, up(3) == 0 ? up(17) : size);
            case "judge": return of(r, up(6), up(4));
            case "taken": return of(up(5));
            case "count": return of(up(6));
            case "tape": return of(up(6), up(3) == 0 ? up(6) - 1 : 0, up(2) == 0 ? up(8) : up(61));
            case "item": return item();
            case "peek": return of(up(6), up(8));
            case "slide": return of(up(6), up(5), up(6), up(5), up(6));
            default: return of();
        }
    }

    private Object[] turn(int r, int size) {
        int i = up(size + 1);
        int j = up(size + 1);
        return up(5) == 0 ? of(r, i, j) : of(r, Math.min(i, j), Math.max(i, j));
    }

    private static Object[] of(Object... all) {
        return all;
    }

    private Object[] set() {
        int s = stop();
        int what = up(6);
        return of(s, what, new int[] {place(), place(), up(heavy), up(300), up(999), up(12)}[what]);
    }

    private Object[] see() {
        int s = placed();
        if (up(8) == 0) {
            return of(-1, up(9));
        }
        int r = m.now.roundOf(s);
        int begins = r == Model.NIL ? 0 : m.now.times(r).get(m.now.rows.get(r).indexOf(s))[1];
        return of(s, up(3) == 0 ? up(2000) : begins);
    }

    private Object[] item() {
        int tape = up(6);
        int r = roundOfSome();
        int i = up(6);
        if (up(2) == 0 && i < m.now.rows.get(r).size()) {
            return of(tape, i, (long) m.now.rows.get(r).get(i));
        }
        return of(tape, i, up(2) == 0 ? random.nextLong() : (long) up(16));
    }

    private int wild() {
        return pick(-1, -2, -3, 4, 6, 16, 17, 60, 61, 64, 100, 999, 1000, 1999, 2000,
                Integer.MIN_VALUE, Integer.MAX_VALUE, Integer.MAX_VALUE - 1, 1 << 30, -(1 << 30), 715827883, 357913942);
    }

    private void makeWild(Object[] all) {
        for (int i = 0; i < all.length; i++) {
            if (up(wildOneIn) == 0 && all[i] instanceof Integer) {
                all[i] = wild();
            }
        }
    }

    /** A whole text, mostly right, as one sign after the other would seldom be. */
    private void feedText() throws Exception {
        StringBuilder b = new StringBuilder();
        for (int c = up(5); c >= 0; c--) {
            b.append(up(66)).append(',').append(up(64));
            b.append(up(2) == 0 ? "*" + up(22) : "");
            b.append(up(2) == 0 ? "@" + up(300) + "-" + up(1002) : "");
            b.append(up(2) == 0 ? "+" + up(32) : "");
            b.append(c > 0 || up(10) == 0 ? ";" : "");
        }
        if (up(3) == 0) {
            b.setCharAt(up(b.length()), "0123456789,;*@-+ x".charAt(up(18)));
        }
        for (int i = 0; i < b.length(); i++) {
            call("feed", of(Integer.valueOf(b.charAt(i))));
        }
        call("read", of());
    }

    private boolean call(String name, Object[] all) throws Exception {
        String row = name + Arrays.toString(all);
        told.add(row);
        for (int i = 0; i < CALLED.size(); i++) {
            if (CALLED.get(i).getName().equals(name)) {
                long got = ((Number) CALLED.get(i).invoke(w, all)).longValue();
                long want = ((Number) MODELLED.get(i).invoke(m, all)).longValue();
                if (got != want) {
                    told.forEach(System.out::println);
                }
                Check.due(row, got, want);
                return got == want;
            }
        }
        throw new IllegalStateException(name);
    }

    private boolean isDear(String name) {
        return List.of("fill", "improve", "best", "drawn", "chance", "ends", "odds").contains(name);
    }

    /** These empty what else would grow. */
    private boolean isSeldom(String name) {
        return List.of("clear", "take", "undo", "lock").contains(name);
    }

    private boolean run(Map<String, Integer> counts) throws Exception {
        for (int i = up(10); i > 0; i--) {
            call("stop", window());
        }
        while (told.size() < CALLS - 110) {
            String name = CALLED.get(up(CALLED.size())).getName();
            if (isDear(name) && up(dearOneIn) != 0 || isSeldom(name) && up(seldomOneIn) != 0) {
                continue;
            }
            if (name.equals("put") || name.equals("tape")) {
                for (int more = up(8); more > 0; more--) {
                    call(name, arguments(name));
                }
            }
            if (name.equals("read") && up(2) == 0) {
                feedText();
                continue;
            }
            Object[] all = arguments(name);
            makeWild(all);
            counts.merge(name, 1, Integer::sum);
            if (!call(name, all)) {
                return false;
            }
        }
        return true;
    }

    public static void main(String[] args) throws Exception {
        int runs = args.length > 0 ? Integer.parseInt(args[0]) : 600;
        int first = args.length > 1 ? Integer.parseInt(args[1]) : 0;
        Method[] all = WindowRounds.class.getDeclaredMethods();
        Arrays.sort(all, (a, b) -> a.getName().compareTo(b.getName()));
        for (Method method : all) {
            if (java.lang.reflect.Modifier.isPublic(method.getModifiers())) {
                CALLED.add(method);
                MODELLED.add(Model.class.getMethod(method.getName(), method.getParameterTypes()));
            }
        }
        Map<String, Integer> counts = new TreeMap<>();
        for (int seed = first; seed < first + runs; seed++) {
            if (!new RandomRunsTest(seed).run(counts)) {
                System.out.println("run by seed " + seed);
                break;
            }
        }
        Check.due("how many calls there were runs of", counts.size(), 45);
        Check.end("RandomRunsTest");
    }
}
