import java.util.ArrayList;
import java.util.Collections;
import java.util.List;
import java.util.regex.Matcher;
import java.util.regex.Pattern;

/**
 * The document once more, as slow and plain as can be, for RandomRunsTest to compare with: what could be is tried
 * out on copies of the whole, SLACKS are found by counting up, and THE TEXT is read by a pattern.
 */
public final class Model {
    static final int NONE = -1, BAD = -2, STATE = -3, FULL = -4, NIL = -5;
    static final long NO = Long.MIN_VALUE;
    static final int[] TOPS = {63, 63, 20, 999, 999, 30};
    static final int[] RULE_TOPS = {60, 999, 1999};

    static final class Stop {
        int[] facts;
        boolean locked;

        Stop(int... facts) {
            this.facts = facts;
        }
    }

    static final class State {
        int x = 32, y = 32, metric, fixed;
        List<Stop> stops = new ArrayList<>();
        List<List<Integer>> rows = new ArrayList<>();
        int[][] rules = new int[4][];
        List<int[]> seen = new ArrayList<>(), plan = new ArrayList<>(), book = new ArrayList<>();

        State() {
            for (int r = 0; r < 4; r++) {
                rows.add(new ArrayList<>());
                rules[r] = new int[] {20, 0, 1999};
            }
        }

        State copy() {
            State c = new State();
            c.x = x;
            c.y = y;
            c.metric = metric;
            c.fixed = fixed;
            for (Stop s : stops) {
                Stop t = new Stop(s.facts.clone());
                t.locked = s.locked;
                c.stops.add(t);
            }
            for (int r = 0; r < 4; r++) {
                c.rows.set(r, new ArrayList<>(rows.get(r)));
                c.rules[r] = rules[r].clone();
            }
            c.seen.addAll(seen);
            c.plan.addAll(plan);
            c.book.addAll(book);
            return c;
        }

        int far(int ax, int ay, int bx, int by) {
            int streets = Math.abs(ax - bx) + Math.abs(ay - by);
            int king = Math.max(Math.abs(ax - bx), Math.abs(ay - by));
            return new int[] {streets, king, streets + king}[metric];
        }

        int px(int s) {
            return s < 0 ? x : stops.get(s).facts[0];
        }

        int py(int s) {
            return s < 0 ? y : stops.get(s).facts[1];
        }

        int far(int s, int t) {
            return far(px(s), py(s), px(t), py(t));
        }

        int roundOf(int s) {
            for (int r = 0; r < 4; r++) {
                if (rows.get(r).contains(s)) {
                    return r;
                }
            }
            return NIL;
        }

        /** Rows of when it comes and begins, the last one of when it is back; extra is waited at place 'at'. */
        List<int[]> times(int r, int leave, int at, int extra) {
            List<int[]> told = new ArrayList<>();
            int time = leave, here = -1;
            List<Integer> row = rows.get(r);
            for (int k = 0; k < row.size(); k++) {
                int s = row.get(k);
                int comes = time + far(here, s);
                int begins = Math.max(comes, stops.get(s).facts[3]) + (k == at ? extra : 0);
                told.add(new int[] {comes, begins});
                time = begins + stops.get(s).facts[5];
                here = s;
            }
            told.add(new int[] {time + far(here, -1), 0});
            return told;
        }

        List<int[]> times(int r) {
            return times(r, rules[r][1], -1, 0);
        }

        int lateAt(int r, List<int[]> times) {
            List<Integer> row = rows.get(r);
            for (int k = 0; k < row.size(); k++) {
                if (times.get(k)[1] > stops.get(row.get(k)).facts[4]) {
                    return k;
                }
            }
            if (!row.isEmpty() && times.get(row.size())[0] > rules[r][2]) {
                return row.size();
            }
            return NIL;
        }

        int loads(int r) {
            return rows.get(r).stream().mapToInt(s -> stops.get(s).facts[2]).sum();
        }

        boolean holds(int r, int leave) {
            return rows.get(r).isEmpty() || lateAt(r, times(r, leave, -1, 0)) == NIL && loads(r) <= rules[r][0];
        }

        boolean holds() {
            for (int r = 0; r < 4; r++) {
                if (!holds(r, rules[r][1])) {
                    return false;
                }
            }
            return true;
        }

        int miles(int r) {
            int sum = 0, here = -1;
            for (int s : rows.get(r)) {
                sum += far(here, s);
                here = s;
            }
            return sum + far(here, -1);
        }

        int cost() {
            int sum = 0;
            for (int r = 0; r < 4; r++) {
                sum += miles(r) + (rows.get(r).isEmpty() ? 0 : fixed);
            }
            return sum;
        }

        int waits(int r) {
            int sum = 0;
            List<int[]> times = times(r);
            for (int k = 0; k < rows.get(r).size(); k++) {
                sum += times.get(k)[1] - times.get(k)[0];
            }
            return sum;
        }

        int slack(int r, int k) {
            int extra = 0;
            while (lateFrom(r, k, times(r, rules[r][1], k, extra + 1)) == NIL) {
                extra++;
            }
            return extra;
        }

        int lateFrom(int r, int from, List<int[]> times) {
            int late = lateAt(r, times);
            return late >= from ? late : NIL;
        }

        int loose() {
            int many = 0;
            for (int s = 0; s < stops.size(); s++) {
                many += roundOf(s) == NIL ? 1 : 0;
            }
            return many;
        }

        State with(int s, int r, int k) {
            State c = copy();
            c.rows.get(r).add(k, s);
            return c;
        }

        /** ROUND, place, what it ADDS, REGRET. */
        int[] cheapest(int s, int from, int to) {
            List<int[]> all = new ArrayList<>();
            for (int r = from; r <= to; r++) {
                int[] least = null;
                for (int k = 0; k <= rows.get(r).size(); k++) {
                    State c = with(s, r, k);
                    int adds = c.cost() - cost();
                    if (c.holds() && (least == null || adds < least[2])) {
                        least = new int[] {r, k, adds, 10000};
                    }
                }
                if (least != null) {
                    all.add(least);
                }
            }
            all.sort((a, b) -> a[2] != b[2] ? a[2] - b[2] : a[0] - b[0]);
            if (all.isEmpty()) {
                return null;
            }
            if (all.size() > 1) {
                all.get(0)[3] = all.get(1)[2] - all.get(0)[2];
            }
            return all.get(0);
        }

        int fill() {
            int many = 0;
            while (true) {
                List<int[]> all = new ArrayList<>();
                for (int s = 0; s < stops.size(); s++) {
                    int[] c = roundOf(s) == NIL ? cheapest(s, 0, 3) : null;
                    if (c != null) {
                        all.add(new int[] {-c[3], c[2], s, c[0], c[1]});
                    }
                }
                if (all.isEmpty()) {
                    return many;
                }
                all.sort((a, b) -> {
                    for (int i = 0; i < 3; i++) {
                        if (a[i] != b[i]) {
                            return Integer.compare(a[i], b[i]);
                        }
                    }
                    return 0;
                });
                int[] c = all.get(0);
                rows.get(c[3]).add(c[4], c[2]);
                many++;
            }
        }

        State turned(int r, int i, int j) {
            State c = copy();
            for (int k = i; k <= j; k++) {
                if (stops.get(rows.get(r).get(k)).locked) {
                    return null;
                }
            }
            Collections.reverse(c.rows.get(r).subList(i, j + 1));
            return c.holds() ? c : null;
        }

        State shifted(int s, int r, int k) {
            State c = copy();
            c.rows.get(roundOf(s)).remove(Integer.valueOf(s));
            c.rows.get(r).add(k, s);
            return !stops.get(s).locked && c.holds() ? c : null;
        }

        State swapped(int s, int t) {
            State c = copy();
            for (List<Integer> row : c.rows) {
                row.replaceAll(u -> u == s ? t : u == t ? s : u);
            }
            return !stops.get(s).locked && !stops.get(t).locked && c.holds() ? c : null;
        }

        /** KIND, GAIN, and three more; null: there is none. */
        int[] best() {
            List<int[]> all = new ArrayList<>();
            for (int r = 0; r < 4; r++) {
                for (int i = 0; i < rows.get(r).size(); i++) {
                    for (int j = i + 1; j < rows.get(r).size(); j++) {
                        note(all, turned(r, i, j), 1, r, i, j);
                    }
                }
            }
            for (int s = 0; s < stops.size(); s++) {
                for (int r = 0; r < 4 && roundOf(s) != NIL; r++) {
                    boolean isOwn = r == roundOf(s);
                    for (int k = 0; k <= rows.get(r).size() - (isOwn ? 1 : 0); k++) {
                        if (!isOwn || rows.get(r).indexOf(s) != k) {
                            note(all, shifted(s, r, k), 2, s, r, k);
                        }
                    }
                }
            }
            for (int s = 0; s < stops.size(); s++) {
                for (int t = s + 1; t < stops.size(); t++) {
                    if (roundOf(s) != NIL && roundOf(t) != NIL) {
                        note(all, swapped(s, t), 3, s, t, NIL);
                    }
                }
            }
            int[] best = null;
            for (int[] move : all) {
                if (move[1] > (best == null ? 0 : best[1])) {
                    best = move;
                }
            }
            return best;
        }

        void note(List<int[]> all, State then, int kind, int a, int b, int c) {
            if (then != null) {
                all.add(new int[] {kind, cost() - then.cost(), a, b, c});
            }
        }

        boolean improve() {
            int[] m = best();
            if (m == null) {
                return false;
            }
            State then = m[0] == 1 ? turned(m[2], m[3], m[4]) : m[0] == 2 ? shifted(m[2], m[3], m[4]) : swapped(m[2], m[3]);
            rows = then.rows;
            return true;
        }
    }

    State now = new State(), kept;
    String text = "";
    int work, toldKind = NIL;
    long[][] tapes = new long[6][];
    int[] sorts = new int[6];

    static boolean in(int v, int top) {
        return 0 <= v && v <= top;
    }

    boolean isStop(int s) {
        return in(s, now.stops.size() - 1);
    }

    boolean spend(int n) {
        if (work + n > 1500) {
            return false;
        }
        work += n;
        return true;
    }

    /** Goes on with what was tried, if it HOLDS. */
    boolean becomes(State tried) {
        if (tried.holds()) {
            now = tried;
            return true;
        }
        return false;
    }

    public int stop(int x, int y, int load, int first, int last, int stay) {
        int[] facts = {x, y, load, first, last, stay};
        for (int i = 0; i < 6; i++) {
            if (!in(facts[i], TOPS[i])) {
                return BAD;
            }
        }
        if (first > last) {
            return BAD;
        }
        if (now.stops.size() == 16) {
            return FULL;
        }
        now.stops.add(new Stop(facts));
        return now.stops.size() - 1;
    }

    public int feed(int sign) {
        if (!in(sign, 127)) {
            return BAD;
        }
        if (text.length() == 100) {
            return FULL;
        }
        text += (char) sign;
        return text.length();
    }

    static final String PLACE = "(?:6[0-3]|[0-5]?[0-9])";
    static final String CLAUSE = PLACE + "," + PLACE
            + "(?:\\*(?:20|[01]?[0-9]))?(?:@[0-9]{1,3}-[0-9]{1,3})?(?:\\+(?:30|[0-2]?[0-9]))?";
    static final Pattern TEXT = Pattern.compile(CLAUSE + "(?:;" + CLAUSE + "){0,5}");
    static final Pattern WINDOW = Pattern.compile("@([0-9]{1,3})-([0-9]{1,3})");

    /** The FAULT, or -1. */
    static int fault(String text) {
        int fault = -1;
        if (!TEXT.matcher(text).matches()) {
            fault = text.length();
            for (int n = text.length(); n > 0; n--) {
                Matcher m = TEXT.matcher(text.substring(0, n));
                boolean canBegin = m.matches() || m.hitEnd();
                fault = canBegin ? fault : n - 1;
            }
        }
        Matcher m = WINDOW.matcher(text);
        while (m.find() && (fault < 0 || m.end() <= fault)) {
            if (Integer.parseInt(m.group(2)) < Integer.parseInt(m.group(1))) {
                return m.end() - 1;
            }
        }
        return fault;
    }

    public int read() {
        String old = text;
        text = "";
        int fault = fault(old);
        if (fault >= 0) {
            return -10 - fault;
        }
        int came = 0;
        for (String clause : old.split(";")) {
            String[] byStay = clause.split("\\+");
            String[] byWindow = byStay[0].split("@");
            String[] byLoad = byWindow[0].split("\\*");
            String[] place = byLoad[0].split(",");
            String[] window = byWindow.length > 1 ? byWindow[1].split("-") : new String[] {"0", "999"};
            int load = byLoad.length > 1 ? Integer.parseInt(byLoad[1]) : 1;
            int stay = byStay.length > 1 ? Integer.parseInt(byStay[1]) : 0;
            came += stop(Integer.parseInt(place[0]), Integer.parseInt(place[1]), load,
                    Integer.parseInt(window[0]), Integer.parseInt(window[1]), stay) >= 0 ? 1 : 0;
        }
        return came;
    }

    public int set(int stop, int what, int v) {
        if (!isStop(stop) || !in(what, 5)) {
            return NONE;
        }
        State tried = now.copy();
        int[] facts = tried.stops.get(stop).facts;
        int was = facts[what];
        facts[what] = v;
        if (!in(v, TOPS[what]) || facts[3] > facts[4]) {
            return BAD;
        }
        return becomes(tried) ? was : STATE;
    }

    public int of(int stop, int what) {
        if (!isStop(stop) || !in(what, 11)) {
            return NONE;
        }
        Stop s = now.stops.get(stop);
        int r = now.roundOf(stop);
        if (what < 6) {
            return s.facts[what];
        }
        if (what == 8) {
            return s.locked ? 1 : 0;
        }
        if (r == NIL) {
            return NIL;
        }
        int k = now.rows.get(r).indexOf(stop);
        switch (what) {
            case 6: return r;
            case 7: return k;
            case 9: return now.times(r).get(k)[0];
            case 10: return now.times(r).get(k)[1];
            default: return now.slack(r, k);
        }
    }

    public int lock(int stop, boolean isLocked) {
        if (!isStop(stop)) {
            return NONE;
        }
        if (now.roundOf(stop) == NIL) {
            return STATE;
        }
        int was = of(stop, 8);
        now.stops.get(stop).locked = isLocked;
        return was;
    }

    public int depot(int x, int y) {
        if (!in(x, 63) || !in(y, 63)) {
            return BAD;
        }
        State tried = now.copy();
        tried.x = x;
        tried.y = y;
        int far = now.far(now.x, now.y, x, y);
        return becomes(tried) ? far : STATE;
    }

    public int rule(int round, int what, int v) {
        if (!in(round, 3) || !in(what, 2)) {
            return NONE;
        }
        if (!in(v, RULE_TOPS[what])) {
            return BAD;
        }
        State tried = now.copy();
        int was = tried.rules[round][what];
        tried.rules[round][what] = v;
        return becomes(tried) ? was : STATE;
    }

    public int price(int what, int v) {
        if (!in(what, 1)) {
            return NONE;
        }
        if (!in(v, what == 0 ? 2 : 99)) {
            return BAD;
        }
        State tried = now.copy();
        int was = what == 0 ? now.metric : now.fixed;
        if (what == 0) {
            tried.metric = v;
        } else {
            tried.fixed = v;
        }
        return becomes(tried) ? was : STATE;
    }

    public int put(int stop, int round, int k) {
        int adds = adds(stop, round, k);
        if (adds == NIL) {
            return STATE;
        }
        if (adds >= 0) {
            now = now.with(stop, round, k);
        }
        return adds;
    }

    public int take(int stop) {
        if (!isStop(stop)) {
            return NONE;
        }
        int r = now.roundOf(stop);
        if (r == NIL || now.stops.get(stop).locked) {
            return STATE;
        }
        int cost = now.cost();
        State tried = now.copy();
        tried.rows.get(r).remove(Integer.valueOf(stop));
        return becomes(tried) ? cost - now.cost() : STATE;
    }

    public int clear(int round) {
        if (!in(round, 3)) {
            return NONE;
        }
        State tried = now.copy();
        tried.rows.get(round).removeIf(s -> !now.stops.get(s).locked);
        int many = now.rows.get(round).size() - tried.rows.get(round).size();
        return becomes(tried) ? many : STATE;
    }

    public int fill() {
        return spend(1) ? now.fill() : FULL;
    }

    public int improve(int n) {
        if (n < 1 || n > 20) {
            return BAD;
        }
        if (!spend(n)) {
            return FULL;
        }
        int done = 0;
        while (done < n && now.improve()) {
            done++;
        }
        return done;
    }

    public int round(int round, int what) {
        if (!in(round, 3) || !in(what, 9)) {
            return NONE;
        }
        List<Integer> row = now.rows.get(round);
        int n = row.size();
        switch (what) {
            case 3: return n;
            case 4: return now.loads(round);
            case 5: return now.miles(round);
            case 6: return now.times(round).get(n)[0];
            case 7: return now.waits(round);
            case 8: return tight(round);
            case 9: return n == 0 ? NIL : leaveLater(round);
            default: return now.rules[round][what];
        }
    }

    int tight(int round) {
        int tight = NIL, least = Integer.MAX_VALUE;
        for (int k = 0; k < now.rows.get(round).size(); k++) {
            int slack = now.slack(round, k);
            if (slack < least) {
                least = slack;
                tight = now.rows.get(round).get(k);
            }
        }
        return tight;
    }

    int leaveLater(int round) {
        int d = 0;
        while (now.holds(round, now.rules[round][1] + d + 1)) {
            d++;
        }
        return d;
    }

    public int at(int round, int k) {
        if (!in(round, 3)) {
            return NONE;
        }
        return in(k, now.rows.get(round).size() - 1) ? now.rows.get(round).get(k) : BAD;
    }

    public int told(int what) {
        int miles = 0, used = 0, waits = 0, locked = 0;
        for (int r = 0; r < 4; r++) {
            miles += now.miles(r);
            used += now.rows.get(r).isEmpty() ? 0 : 1;
            waits += now.waits(r);
        }
        for (Stop s : now.stops) {
            locked += s.locked ? 1 : 0;
        }
        int[] all = {now.cost(), miles, now.loose(), locked, used, waits};
        return in(what, 5) ? all[what] : NONE;
    }

    public int far(int x, int y, int toX, int toY) {
        return in(x, 63) && in(y, 63) && in(toX, 63) && in(toY, 63) ? now.far(x, y, toX, toY) : BAD;
    }

    public int adds(int stop, int round, int k) {
        if (!isStop(stop) || !in(round, 3)) {
            return NONE;
        }
        if (now.roundOf(stop) != NIL) {
            return STATE;
        }
        if (!in(k, now.rows.get(round).size())) {
            return BAD;
        }
        State then = now.with(stop, round, k);
        return then.holds() ? then.cost() - now.cost() : NIL;
    }

    public int cheapest(int stop, int round, int what) {
        if (!isStop(stop) || round < -1 || round > 3 || !in(what, round == -1 ? 3 : 2)) {
            return NONE;
        }
        if (now.roundOf(stop) != NIL) {
            return STATE;
        }
        int[] c = now.cheapest(stop, round == -1 ? 0 : round, round == -1 ? 3 : round);
        return c == null ? NIL : c[what];
    }

    public int best(int what) {
        if (!in(what, 4)) {
            return NONE;
        }
        if (!spend(1)) {
            return FULL;
        }
        int[] move = now.best();
        toldKind = move == null ? NIL : move[0];
        return move == null ? NIL : move[what];
    }

    int gain(State then) {
        return then == null ? -100000 : now.cost() - then.cost();
    }

    public int turn(int round, int i, int j) {
        if (!in(round, 3)) {
            return NONE;
        }
        int top = now.rows.get(round).size() - 1;
        return in(i, top) && in(j, top) && i < j ? gain(now.turned(round, i, j)) : BAD;
    }

    public int shift(int stop, int round, int k) {
        if (!isStop(stop) || !in(round, 3)) {
            return NONE;
        }
        int r = now.roundOf(stop);
        if (r == NIL) {
            return STATE;
        }
        boolean isOwn = r == round;
        int top = now.rows.get(round).size() - (isOwn ? 1 : 0);
        if (!in(k, top) || isOwn && now.rows.get(round).indexOf(stop) == k) {
            return BAD;
        }
        return gain(now.shifted(stop, round, k));
    }

    public int swap(int stop, int other) {
        if (!isStop(stop) || !isStop(other) || stop == other) {
            return NONE;
        }
        if (now.roundOf(stop) == NIL || now.roundOf(other) == NIL) {
            return STATE;
        }
        return gain(now.swapped(stop, other));
    }

    public int late(int round, int d) {
        if (!in(round, 3)) {
            return NONE;
        }
        return in(d, 1999) ? now.lateAt(round, now.times(round, now.rules[round][1] + d, -1, 0)) : BAD;
    }

    public int due(int k) {
        List<Integer> all = new ArrayList<>();
        for (int s = 0; s < now.stops.size(); s++) {
            all.add(s);
        }
        all.sort((s, t) -> {
            int[] a = now.stops.get(s).facts, b = now.stops.get(t).facts;
            return a[4] != b[4] ? a[4] - b[4] : a[3] != b[3] ? a[3] - b[3] : s - t;
        });
        return in(k, all.size() - 1) ? all.get(k) : BAD;
    }

    int row(List<int[]> rows, int most, int a, int b) {
        if (rows.size() == most) {
            return FULL;
        }
        rows.add(new int[] {a, b});
        return rows.size();
    }

    public int see(int stop, int minute) {
        if (stop == -1) {
            now.seen.clear();
            return 0;
        }
        if (!isStop(stop)) {
            return NONE;
        }
        return in(minute, 1999) ? row(now.seen, 5, stop, minute) : BAD;
    }

    public int fits(int round, int what) {
        if (!in(round, 3) || !in(what, 1)) {
            return NONE;
        }
        List<Integer> fit = new ArrayList<>();
        for (int minute = 0; minute < 100; minute++) {
            boolean isSo = now.holds(round, minute);
            for (int[] row : now.seen) {
                int k = now.rows.get(round).indexOf(row[0]);
                isSo = isSo && (k < 0 || now.times(round, minute, -1, 0).get(k)[1] == row[1]);
            }
            if (isSo) {
                fit.add(minute);
            }
        }
        return what == 0 ? fit.size() : fit.isEmpty() ? NIL : fit.get(0);
    }

    static int lowest(int above, int below, int part) {
        for (int d = below; d > 1; d--) {
            if (above % d == 0 && below % d == 0) {
                return lowest(above / d, below / d, part);
            }
        }
        return part == 0 ? above : below;
    }

    public long odds(int part) {
        if (!in(part, 1) || now.loose() == 0) {
            return NO;
        }
        int could = 0;
        for (int s = 0; s < now.stops.size(); s++) {
            could += now.roundOf(s) == NIL && now.cheapest(s, 0, 3) != null ? 1 : 0;
        }
        return lowest(could, now.loose(), part);
    }

    public long mean(int part) {
        int many = now.stops.size() - now.loose();
        return in(part, 1) && many > 0 ? lowest(told(5), many, part) : NO;
    }

    int leftOver(int seed, int n) {
        State then = now.copy();
        int[] z = {seed};
        for (int i = 0; i < n && then.stops.size() < 16; i++) {
            int x = next(z) % 64, y = next(z) % 64, load = next(z) % 10, first = next(z) % 400;
            int last = first + 20 + next(z) % 200;
            then.stops.add(new Stop(x, y, load, first, last, next(z) % 20));
        }
        then.fill();
        return then.loose();
    }

    static int next(int[] z) {
        z[0] = z[0] * 1103515245 + 12345;
        return z[0] >>> 9;
    }

    public int drawn(int seed, int n) {
        if (!in(n, 8)) {
            return BAD;
        }
        return spend(1) ? leftOver(seed, n) : FULL;
    }

    public int chance(int seed, int n, int m, int part) {
        if (!in(n, 8) || m < 1 || m > 4 || !in(part, 1)) {
            return BAD;
        }
        if (!spend(m)) {
            return FULL;
        }
        int none = 0;
        for (int i = 0; i < m; i++) {
            none += leftOver(seed + i, n) == 0 ? 1 : 0;
        }
        return lowest(none, m, part);
    }

    public int plan(int what, int n) {
        if (what == -1) {
            now.plan.clear();
            return 0;
        }
        if (!in(what, 3) || what == 2 && !isStop(n)) {
            return NONE;
        }
        return what == 3 && !in(n, 99) ? BAD : row(now.plan, 8, what, n);
    }

    public int ends(int what) {
        if (!in(what, 1)) {
            return NONE;
        }
        if (!spend(now.plan.size())) {
            return FULL;
        }
        State then = now.copy();
        for (int[] row : now.plan) {
            if (row[0] == 0) {
                then.fill();
            } else if (row[0] == 1) {
                then.improve();
            } else if (row[0] == 3) {
                then.fixed = row[1];
            } else if (!then.stops.get(row[1]).locked) {
                then.rows.forEach(r -> r.remove(Integer.valueOf(row[1])));
            }
        }
        return what == 0 ? then.cost() : then.loose();
    }

    public int book(int round, int many) {
        if (round == -1) {
            now.book.clear();
            return 0;
        }
        if (!in(round, 3)) {
            return NONE;
        }
        return in(many, 16) ? row(now.book, 8, round, many) : BAD;
    }

    public int looked() {
        for (int i = 0; i < now.book.size(); i++) {
            if (now.rows.get(now.book.get(i)[0]).size() != now.book.get(i)[1]) {
                return i;
            }
        }
        return NIL;
    }

    public int judge(int round, int tape, int i) {
        if (!in(round, 3) || !in(tape, 5)) {
            return NONE;
        }
        if (tapes[tape] != null && sorts[tape] != 0) {
            return -12;
        }
        int k = 0;
        for (int s : now.rows.get(round)) {
            if (tapes[tape] == null || i < 0 || (long) i + k >= tapes[tape].length) {
                return 100 + k;
            }
            if (tapes[tape][i + k] != s) {
                return k;
            }
            k++;
        }
        return NIL;
    }

    public int taken(int k) {
        if (!in(k, 4)) {
            return BAD;
        }
        if (toldKind == NIL) {
            return -11;
        }
        return k == 0 || k == toldKind || k == 4 && toldKind >= 2 ? toldKind : -12;
    }

    public int image() {
        kept = now.copy();
        return now.stops.size();
    }

    public int undo() {
        if (kept == null) {
            return STATE;
        }
        now = kept.copy();
        return now.stops.size();
    }

    public int count(int what) {
        int[] all = {now.stops.size(), now.seen.size(), now.plan.size(), now.book.size(), text.length(), work};
        return in(what, 5) ? all[what] : BAD;
    }

    public int tape(int tape, int sort, int n) {
        if (!in(tape, 5)) {
            return NONE;
        }
        if (sort == -1) {
            tapes[tape] = null;
            return 1;
        }
        if (!in(sort, 4) || n > 60) {
            return BAD;
        }
        if (n < 0) {
            return -14;
        }
        tapes[tape] = new long[n];
        sorts[tape] = sort;
        return 1;
    }

    public int item(int tape, int i, long v) {
        if (!in(tape, 5)) {
            return NONE;
        }
        if (tapes[tape] == null) {
            return -11;
        }
        if (!in(i, tapes[tape].length - 1)) {
            return -13;
        }
        long[] cut = {(byte) v, (short) v, (int) v, v, v == 0 ? 0 : 1};
        tapes[tape][i] = cut[sorts[tape]];
        return 1;
    }

    public long peek(int tape, int i) {
        return in(tape, 5) && tapes[tape] != null && in(i, tapes[tape].length - 1) ? tapes[tape][i] : NO;
    }

    public int slide(int tape, int i, int other, int j, int n) {
        if (!in(tape, 5) || !in(other, 5)) {
            return NONE;
        }
        long[] from = tapes[tape], to = tapes[other];
        if (from == null || to == null) {
            return -11;
        }
        if (sorts[tape] != sorts[other]) {
            return -12;
        }
        if (n < 0 || i < 0 || j < 0 || (long) i + n > from.length || (long) j + n > to.length) {
            return -13;
        }
        long[] were = from.clone();
        for (int m = 0; m < n; m++) {
            to[j + m] = were[i + m];
        }
        return n;
    }
}
