/** Rounds by windows of time; ../shared/DOC.md says what each call does, README.md how to use it. */
public final class WindowRounds {
    public static final int NONE = -1, BAD = -2, STATE = -3, FULL = -4;
    public static final long NO = Long.MIN_VALUE;

    private static final int NIL = -5, NOTHING = -11, CAST = -12, PLACE = -13, SIZE = -14;
    private static final int FAULTS = -10, ENDED = 100, MAY_NOT = -100000, NO_SECOND = 10000;

    private static final int STOPS = 16, ROUNDS = 4, SIGNS = 100, CLAUSES = 6;
    private static final int SEEN = 5, PAIRS = 8, WORK = 1500, FITS = 100;
    private static final int SIDE = 63, MINUTES = 1999, FIXED = 99, METRICS = 2;

    // The facts of a STOP, numbered as set() and of() number them.
    private static final int X = 0, Y = 1, LOAD = 2, FIRST = 3, LAST = 4, STAY = 5, FACTS = 6;
    private static final int[] FACT_TOPS = {63, 63, 20, 999, 999, 30};
    private static final int[] FACT_DRAWS = {64, 64, 10, 400, 200, 20};
    private static final int DRAWN_WINDOW = 20;

    // The rules of a ROUND, numbered as rule() and round() number them.
    private static final int ROOM = 0, LEAVE = 1, HOME = 2, RULES = 3;
    private static final int[] RULE_TOPS = {60, 999, 1999};

    // THE DEPOT is kept as one more place behind the STOPS, so that ways to and from it are no case of their own.
    private static final int DEPOT = STOPS;

    private static final int TURN = 1, SHIFT = 2, SWAP = 3, BY_STOPS = 4;
    private static final int FILL_ROW = 0, MOVE_ROW = 1, TAKE_ROW = 2, FIXED_ROW = 3;

    private static final int TAPES = 6, ITEMS = 60, EMPTY = -1;
    private static final int BYTES = 0, SHORTS = 1, INTS = 2, LONGS = 3, BOOLEANS = 4;

    private final World now = new World();
    private final World kept = new World();
    private final World thought = new World();
    private final Draft draft = new Draft();
    private final Filling filling = new Filling();
    private final Moves moves = new Moves();
    private final Reader text = new Reader();
    private final Tapes tapes = new Tapes();
    private boolean hasKept;
    private int toldKind = NIL;
    private int work;

    public WindowRounds() {
    }

    // ---- stops

    public int stop(int x, int y, int load, int first, int last, int stay) {
        boolean isPlace = isUpTo(x, SIDE) && isUpTo(y, SIDE);
        boolean isWindow = isUpTo(last, topOf(FACT_TOPS, LAST)) && isUpTo(first, last);
        if (!isPlace || !isWindow || !isUpTo(load, topOf(FACT_TOPS, LOAD)) || !isUpTo(stay, topOf(FACT_TOPS, STAY))) {
            return BAD;
        }
        return now.stopCount < STOPS ? now.addStop(x, y, load, first, last, stay) : FULL;
    }

    public int feed(int sign) {
        if (!isUpTo(sign, 127)) {
            return BAD;
        }
        return text.size < SIGNS ? text.append(sign) : FULL;
    }

    public int read() {
        int fault = text.parse();
        text.size = 0;
        if (fault >= 0) {
            return FAULTS - fault;
        }
        int before = now.stopCount;
        for (int c = 0; c < text.clauses && now.stopCount < STOPS; c++) {
            now.addStop(text.factAt(c, X), text.factAt(c, Y), text.factAt(c, LOAD),
                    text.factAt(c, FIRST), text.factAt(c, LAST), text.factAt(c, STAY));
        }
        return now.stopCount - before;
    }

    public int set(int stop, int what, int v) {
        if (!now.isStop(stop) || !isUpTo(what, STAY)) {
            return NONE;
        }
        if (!now.mayBe(stop, what, v)) {
            return BAD;
        }
        int was = now.fact(stop, what);
        now.setFact(stop, what, v);
        if (!holds(now.roundOf(stop))) {
            now.setFact(stop, what, was);
            return STATE;
        }
        return was;
    }

    public int of(int stop, int what) {
        if (!now.isStop(stop) || !isUpTo(what, 11)) {
            return NONE;
        }
        if (what <= STAY) {
            return now.fact(stop, what);
        }
        int r = now.roundOf(stop);
        if (what == 8) {
            return now.isLocked(stop) ? 1 : 0;
        }
        if (what == 6 || r == NIL) {
            return r;
        }
        int k = now.placeOf(stop);
        return what == 7 ? k : timeAt(r, k, what);
    }

    public int lock(int stop, boolean isLocked) {
        if (!now.isStop(stop)) {
            return NONE;
        }
        if (now.roundOf(stop) == NIL) {
            return STATE;
        }
        boolean was = now.isLocked(stop);
        now.setLocked(stop, isLocked);
        return was ? 1 : 0;
    }

    public int depot(int x, int y) {
        if (!isUpTo(x, SIDE) || !isUpTo(y, SIDE)) {
            return BAD;
        }
        int wasX = now.fact(DEPOT, X);
        int wasY = now.fact(DEPOT, Y);
        now.setDepot(x, y);
        if (!allHold()) {
            now.setDepot(wasX, wasY);
            return STATE;
        }
        return now.apart(wasX, wasY, x, y);
    }

    // ---- rounds

    public int rule(int round, int what, int v) {
        if (!isRound(round) || !isUpTo(what, HOME)) {
            return NONE;
        }
        if (!isUpTo(v, topOf(RULE_TOPS, what))) {
            return BAD;
        }
        int was = now.ruleOf(round, what);
        now.setRule(round, what, v);
        if (!holds(round)) {
            now.setRule(round, what, was);
            return STATE;
        }
        return was;
    }

    public int price(int what, int v) {
        if (!isUpTo(what, 1)) {
            return NONE;
        }
        if (!isUpTo(v, what == 0 ? METRICS : FIXED)) {
            return BAD;
        }
        if (what == 1) {
            int was = now.fixed;
            now.fixed = v;
            return was;
        }
        int was = now.metric;
        now.metric = v;
        if (!allHold()) {
            now.metric = was;
            return STATE;
        }
        return was;
    }

    public int put(int stop, int round, int k) {
        int refused = refusalAt(stop, round, k);
        if (refused != 0) {
            return refused;
        }
        draft.load(now, round);
        draft.insert(k, stop);
        if (!draft.follow(now, 0)) {
            return STATE;
        }
        int adds = now.addsAt(stop, round, k);
        draft.keep(now);
        return adds;
    }

    public int take(int stop) {
        if (!now.isStop(stop)) {
            return NONE;
        }
        int before = now.cost();
        return takeOut(now, stop) ? before - now.cost() : STATE;
    }

    public int clear(int round) {
        if (!isRound(round)) {
            return NONE;
        }
        draft.load(now, round);
        draft.dropUnlocked(now);
        if (!draft.follow(now, 0)) {
            return STATE;
        }
        int many = now.sizeOf(round) - draft.size;
        draft.keep(now);
        return many;
    }

    public int fill() {
        return spend(1) ? filling.fillAll(now) : FULL;
    }

    public int improve(int n) {
        if (n < 1 || n > 20) {
            return BAD;
        }
        if (!spend(n)) {
            return FULL;
        }
        int done = 0;
        for (int i = 0; i < n; i++) {
            moves.find(now);
            if (moves.kind == NIL) {
                break;
            }
            moves.perform(now);
            done++;
        }
        return done;
    }

    public int round(int round, int what) {
        if (!isRound(round) || !isUpTo(what, 9)) {
            return NONE;
        }
        if (what <= HOME) {
            return now.ruleOf(round, what);
        }
        draft.load(now, round);
        draft.follow(now, 0);
        draft.lookBack(now);
        switch (what) {
            case 3:
                return draft.size;
            case 4:
                return draft.loads;
            case 5:
                return draft.miles;
            case 6:
                return draft.back;
            case 7:
                return draft.waits;
            case 8:
                return draft.tightest();
            default:
                return draft.canLeaveLater();
        }
    }

    public int at(int round, int k) {
        if (!isRound(round)) {
            return NONE;
        }
        return k >= 0 && k < now.sizeOf(round) ? now.rowAt(round, k) : BAD;
    }

    public int told(int what) {
        switch (what) {
            case 0:
                return now.cost();
            case 1:
                return now.milesOfAll();
            case 2:
                return now.looseCount();
            case 3:
                return now.lockedCount();
            case 4:
                return now.usedRounds();
            case 5:
                return waitsOfAll();
            default:
                return NONE;
        }
    }

    // ---- what could be

    public int far(int x, int y, int toX, int toY) {
        if (!isUpTo(x, SIDE) || !isUpTo(y, SIDE) || !isUpTo(toX, SIDE) || !isUpTo(toY, SIDE)) {
            return BAD;
        }
        return now.apart(x, y, toX, toY);
    }

    public int adds(int stop, int round, int k) {
        int refused = refusalAt(stop, round, k);
        if (refused != 0) {
            return refused;
        }
        draft.load(now, round);
        draft.insert(k, stop);
        return draft.follow(now, 0) ? now.addsAt(stop, round, k) : NIL;
    }

    public int cheapest(int stop, int round, int what) {
        boolean isOfAll = round == -1;
        if (!now.isStop(stop) || !isOfAll && !isRound(round) || !isUpTo(what, isOfAll ? 3 : 2)) {
            return NONE;
        }
        if (now.roundOf(stop) != NIL) {
            return STATE;
        }
        filling.weigh(now, stop, isOfAll ? 0 : round, isOfAll ? ROUNDS - 1 : round);
        if (filling.round == NIL) {
            return NIL;
        }
        switch (what) {
            case 0:
                return filling.round;
            case 1:
                return filling.place;
            case 2:
                return filling.adds;
            default:
                return filling.regret;
        }
    }

    public int best(int what) {
        if (!isUpTo(what, 4)) {
            return NONE;
        }
        if (!spend(1)) {
            return FULL;
        }
        moves.find(now);
        toldKind = moves.kind;
        return moves.foundFact(what);
    }

    public int turn(int round, int i, int j) {
        if (!isRound(round)) {
            return NONE;
        }
        if (i < 0 || j <= i || j >= now.sizeOf(round)) {
            return BAD;
        }
        return moves.tryTurn(now, round, i, j) ? moves.turnGain(now, round, i, j) : MAY_NOT;
    }

    public int shift(int stop, int round, int k) {
        if (!now.isStop(stop) || !isRound(round)) {
            return NONE;
        }
        int from = now.roundOf(stop);
        if (from == NIL) {
            return STATE;
        }
        int top = from == round ? now.sizeOf(round) - 1 : now.sizeOf(round);
        if (!isUpTo(k, top) || from == round && k == now.placeOf(stop)) {
            return BAD;
        }
        return moves.tryShift(now, stop, round, k) ? moves.shiftGain(now, stop, round, k) : MAY_NOT;
    }

    public int swap(int stop, int other) {
        if (!now.isStop(stop) || !now.isStop(other) || stop == other) {
            return NONE;
        }
        if (now.roundOf(stop) == NIL || now.roundOf(other) == NIL) {
            return STATE;
        }
        return moves.trySwap(now, stop, other) ? moves.swapGain(now, stop, other) : MAY_NOT;
    }

    public int late(int round, int d) {
        if (!isRound(round)) {
            return NONE;
        }
        if (!isUpTo(d, MINUTES)) {
            return BAD;
        }
        draft.load(now, round);
        draft.follow(now, d);
        return draft.lateAt;
    }

    public int due(int k) {
        for (int s = 0; s < now.stopCount; s++) {
            if (now.dueAhead(s) == k) {
                return s;
            }
        }
        return BAD;
    }

    // ---- seen, odds, draws

    public int see(int stop, int minute) {
        if (stop == -1) {
            return now.seen.empty();
        }
        if (!now.isStop(stop)) {
            return NONE;
        }
        if (!isUpTo(minute, MINUTES)) {
            return BAD;
        }
        return now.seen.size < SEEN ? now.seen.append(stop, minute) : FULL;
    }

    public int fits(int round, int what) {
        if (!isRound(round) || !isUpTo(what, 1)) {
            return NONE;
        }
        int many = 0;
        int least = NIL;
        int leaves = now.ruleOf(round, LEAVE);
        draft.load(now, round);
        for (int minute = 0; minute < FITS; minute++) {
            if (draft.follow(now, minute - leaves) && draft.isAsSeen(now.seen)) {
                least = many == 0 ? minute : least;
                many++;
            }
        }
        return what == 0 ? many : least;
    }

    public long odds(int part) {
        int loose = now.looseCount();
        if (!isUpTo(part, 1) || loose == 0) {
            return NO;
        }
        int could = 0;
        for (int s = 0; s < now.stopCount; s++) {
            if (now.roundOf(s) == NIL) {
                filling.weigh(now, s, 0, ROUNDS - 1);
                could += filling.round == NIL ? 0 : 1;
            }
        }
        return lowest(could, loose, part);
    }

    public long mean(int part) {
        int many = now.stopCount - now.looseCount();
        if (!isUpTo(part, 1) || many == 0) {
            return NO;
        }
        return lowest(waitsOfAll(), many, part);
    }

    public int drawn(int seed, int n) {
        if (!isUpTo(n, 8)) {
            return BAD;
        }
        return spend(1) ? leftOver(seed, n) : FULL;
    }

    public int chance(int seed, int n, int m, int part) {
        if (!isUpTo(n, 8) || m < 1 || m > 4 || !isUpTo(part, 1)) {
            return BAD;
        }
        if (!spend(m)) {
            return FULL;
        }
        int none = 0;
        for (int i = 0; i < m; i++) {
            none += leftOver(seed + i, n) == 0 ? 1 : 0;
        }
        return lowest(none, m, part);
    }

    // ---- plans, books

    public int plan(int what, int n) {
        if (what == -1) {
            return now.plan.empty();
        }
        if (!isUpTo(what, FIXED_ROW) || what == TAKE_ROW && !now.isStop(n)) {
            return NONE;
        }
        if (what == FIXED_ROW && !isUpTo(n, FIXED)) {
            return BAD;
        }
        return now.plan.size < PAIRS ? now.plan.append(what, n) : FULL;
    }

    public int ends(int what) {
        if (!isUpTo(what, 1)) {
            return NONE;
        }
        int rows = now.plan.size;
        if (!spend(rows)) {
            return FULL;
        }
        thought.copyFrom(now);
        for (int i = 0; i < rows; i++) {
            int n = now.plan.rightAt(i);
            switch (now.plan.leftAt(i)) {
                case FILL_ROW:
                    filling.fillAll(thought);
                    break;
                case MOVE_ROW:
                    moves.find(thought);
                    moves.perform(thought);
                    break;
                case TAKE_ROW:
                    takeOut(thought, n);
                    break;
                default:
                    thought.fixed = n;
                    break;
            }
        }
        return what == 0 ? thought.cost() : thought.looseCount();
    }

    public int book(int round, int many) {
        if (round == -1) {
            return now.book.empty();
        }
        if (!isRound(round)) {
            return NONE;
        }
        if (!isUpTo(many, STOPS)) {
            return BAD;
        }
        return now.book.size < PAIRS ? now.book.append(round, many) : FULL;
    }

    public int looked() {
        for (int i = 0; i < now.book.size; i++) {
            if (now.sizeOf(now.book.leftAt(i)) != now.book.rightAt(i)) {
                return i;
            }
        }
        return NIL;
    }

    // ---- judging, the image, tapes

    public int judge(int round, int tape, int i) {
        if (!isRound(round) || !tapes.isTape(tape)) {
            return NONE;
        }
        int sort = tapes.sortOf(tape);
        if (sort != BYTES && sort != EMPTY) {
            return CAST;
        }
        for (int k = 0; k < now.sizeOf(round); k++) {
            if (!tapes.hasItem(tape, i + k)) {
                return ENDED + k;
            }
            if (tapes.itemAt(tape, i + k) != now.rowAt(round, k)) {
                return k;
            }
        }
        return NIL;
    }

    public int taken(int k) {
        if (!isUpTo(k, BY_STOPS)) {
            return BAD;
        }
        if (toldKind == NIL) {
            return NOTHING;
        }
        boolean isSo = k == 0 || k == toldKind || k == BY_STOPS && toldKind != TURN;
        return isSo ? toldKind : CAST;
    }

    public int image() {
        kept.copyFrom(now);
        hasKept = true;
        return now.stopCount;
    }

    public int undo() {
        if (!hasKept) {
            return STATE;
        }
        now.copyFrom(kept);
        return now.stopCount;
    }

    public int count(int what) {
        switch (what) {
            case 0:
                return now.stopCount;
            case 1:
                return now.seen.size;
            case 2:
                return now.plan.size;
            case 3:
                return now.book.size;
            case 4:
                return text.size;
            case 5:
                return work;
            default:
                return BAD;
        }
    }

    public int tape(int tape, int sort, int n) {
        if (!tapes.isTape(tape)) {
            return NONE;
        }
        if (sort == EMPTY) {
            tapes.become(tape, EMPTY, 0);
            return 1;
        }
        if (!isUpTo(sort, BOOLEANS) || n > ITEMS) {
            return BAD;
        }
        if (n < 0) {
            return SIZE;
        }
        tapes.become(tape, sort, n);
        return 1;
    }

    public int item(int tape, int i, long v) {
        if (!tapes.isTape(tape)) {
            return NONE;
        }
        if (tapes.sortOf(tape) == EMPTY) {
            return NOTHING;
        }
        if (!tapes.hasItem(tape, i)) {
            return PLACE;
        }
        tapes.setItem(tape, i, v);
        return 1;
    }

    public long peek(int tape, int i) {
        return tapes.hasItem(tape, i) ? tapes.itemAt(tape, i) : NO;
    }

    public int slide(int tape, int i, int other, int j, int n) {
        if (!tapes.isTape(tape) || !tapes.isTape(other)) {
            return NONE;
        }
        if (tapes.sortOf(tape) == EMPTY || tapes.sortOf(other) == EMPTY) {
            return NOTHING;
        }
        if (tapes.sortOf(tape) != tapes.sortOf(other)) {
            return CAST;
        }
        if (!tapes.hasPart(tape, i, n) || !tapes.hasPart(other, j, n)) {
            return PLACE;
        }
        tapes.copyPart(tape, i, other, j, n);
        return n;
    }

    // ---- what several calls share

    private static boolean isUpTo(int v, int top) {
        return v >= 0 && v <= top;
    }

    private static boolean isRound(int round) {
        return isUpTo(round, ROUNDS - 1);
    }

    private static int topOf(int[] tops, int what) {
        return what >= 0 && what < tops.length ? tops[what] : -1;
    }

    private static void copyRow(int[] from, int[] to) {
        for (int i = 0; i < from.length && i < to.length; i++) {
            to[i] = from[i];
        }
    }

    private static int lowest(int above, int below, int part) {
        int divisor = below;
        int rest = above;
        // Euclid's steps by ints are far fewer than 64.
        for (int step = 0; step < 64 && rest > 0; step++) {
            int next = divisor % rest;
            divisor = rest;
            rest = next;
        }
        int told = part == 0 ? above : below;
        return divisor > 0 ? told / divisor : told;
    }

    private boolean spend(int n) {
        if (n > WORK - work) {
            return false;
        }
        work += n;
        return true;
    }

    private boolean holds(int r) {
        if (!isRound(r)) {
            return true;
        }
        draft.load(now, r);
        return draft.follow(now, 0);
    }

    private boolean allHold() {
        for (int r = 0; r < ROUNDS; r++) {
            if (!holds(r)) {
                return false;
            }
        }
        return true;
    }

    /** Why a STOP can't be asked for at a place of a ROUND, whether or not that HOLDS then; 0: it can. */
    private int refusalAt(int stop, int round, int k) {
        if (!now.isStop(stop) || !isRound(round)) {
            return NONE;
        }
        if (now.roundOf(stop) != NIL) {
            return STATE;
        }
        return isUpTo(k, now.sizeOf(round)) ? 0 : BAD;
    }

    private boolean takeOut(World w, int s) {
        int r = w.roundOf(s);
        if (r == NIL || w.isLocked(s)) {
            return false;
        }
        draft.load(w, r);
        draft.drop(w.placeOf(s));
        if (!draft.follow(w, 0)) {
            return false;
        }
        draft.keep(w);
        return true;
    }

    private int timeAt(int r, int k, int what) {
        draft.load(now, r);
        draft.follow(now, 0);
        draft.lookBack(now);
        if (what == 9) {
            return draft.comesAt(k);
        }
        return what == 10 ? draft.beginsAt(k) : draft.slackAt(k);
    }

    private int waitsOfAll() {
        int sum = 0;
        for (int r = 0; r < ROUNDS; r++) {
            draft.load(now, r);
            draft.follow(now, 0);
            sum += draft.waits;
        }
        return sum;
    }

    private int leftOver(int seed, int n) {
        thought.copyFrom(now);
        thought.draw(seed, n);
        filling.fillAll(thought);
        return thought.looseCount();
    }

    /** Rows of two numbers told by hand. */
    private static final class Pairs {
        final int[] left = new int[PAIRS];
        final int[] right = new int[PAIRS];
        int size;

        int empty() {
            size = 0;
            return 0;
        }

        int append(int a, int b) {
            if (size >= 0 && size < PAIRS) {
                left[size] = a;
                right[size] = b;
                size++;
            }
            return size;
        }

        int leftAt(int i) {
            return i >= 0 && i < left.length ? left[i] : NIL;
        }

        int rightAt(int i) {
            return i >= 0 && i < right.length ? right[i] : NIL;
        }

        void copyFrom(Pairs other) {
            copyRow(other.left, left);
            copyRow(other.right, right);
            size = other.size;
        }
    }

    /** All that THE IMAGE keeps in one place, so that a copy of it is the image, and another one a thought. */
    private static final class World {
        final int[] facts = new int[(STOPS + 1) * FACTS];
        final int[] roundsOf = new int[STOPS];
        final boolean[] locked = new boolean[STOPS];
        final int[] rules = new int[ROUNDS * RULES];
        final int[] sizes = new int[ROUNDS];
        final int[] rows = new int[ROUNDS * STOPS];
        final Pairs seen = new Pairs();
        final Pairs plan = new Pairs();
        final Pairs book = new Pairs();
        int stopCount;
        int metric;
        int fixed;

        World() {
            setDepot(32, 32);
            for (int r = 0; r < ROUNDS; r++) {
                setRule(r, ROOM, 20);
                setRule(r, HOME, MINUTES);
            }
        }

        void copyFrom(World other) {
            copyRow(other.facts, facts);
            copyRow(other.roundsOf, roundsOf);
            copyRow(other.rules, rules);
            copyRow(other.sizes, sizes);
            copyRow(other.rows, rows);
            for (int s = 0; s < STOPS; s++) {
                locked[s] = other.locked[s];
            }
            seen.copyFrom(other.seen);
            plan.copyFrom(other.plan);
            book.copyFrom(other.book);
            stopCount = other.stopCount;
            metric = other.metric;
            fixed = other.fixed;
        }

        int addStop(int x, int y, int load, int first, int last, int stay) {
            int s = stopCount;
            if (s < 0 || s >= STOPS) {
                return FULL;
            }
            setFact(s, X, x);
            setFact(s, Y, y);
            setFact(s, LOAD, load);
            setFact(s, FIRST, first);
            setFact(s, LAST, last);
            setFact(s, STAY, stay);
            roundsOf[s] = NIL;
            locked[s] = false;
            stopCount++;
            return s;
        }

        /** The draws come in the order of the facts, and LAST counts from the FIRST that was drawn ahead of it. */
        void draw(int seed, int n) {
            int z = seed;
            for (int i = 0; i < n && stopCount < STOPS; i++) {
                int s = addStop(0, 0, 0, 0, 0, 0);
                for (int what = 0; what < FACTS; what++) {
                    z = z * 1103515245 + 12345;
                    int spread = topOf(FACT_DRAWS, what);
                    int v = spread > 0 ? (z >>> 9) % spread : 0;
                    setFact(s, what, what == LAST ? fact(s, FIRST) + DRAWN_WINDOW + v : v);
                }
            }
        }

        boolean isStop(int s) {
            return s >= 0 && s < stopCount;
        }

        int fact(int s, int what) {
            int i = s * FACTS + what;
            return i >= 0 && i < facts.length ? facts[i] : 0;
        }

        void setFact(int s, int what, int v) {
            int i = s * FACTS + what;
            if (i >= 0 && i < facts.length) {
                facts[i] = v;
            }
        }

        boolean mayBe(int s, int what, int v) {
            if (!isUpTo(v, topOf(FACT_TOPS, what))) {
                return false;
            }
            if (what == FIRST) {
                return v <= fact(s, LAST);
            }
            return what != LAST || v >= fact(s, FIRST);
        }

        void setDepot(int x, int y) {
            setFact(DEPOT, X, x);
            setFact(DEPOT, Y, y);
        }

        int roundOf(int s) {
            return s >= 0 && s < roundsOf.length ? roundsOf[s] : NIL;
        }

        boolean isLocked(int s) {
            return s >= 0 && s < locked.length && locked[s];
        }

        void setLocked(int s, boolean isLocked) {
            if (s >= 0 && s < locked.length) {
                locked[s] = isLocked;
            }
        }

        int ruleOf(int r, int what) {
            int i = r * RULES + what;
            return i >= 0 && i < rules.length ? rules[i] : 0;
        }

        void setRule(int r, int what, int v) {
            int i = r * RULES + what;
            if (i >= 0 && i < rules.length) {
                rules[i] = v;
            }
        }

        int sizeOf(int r) {
            return r >= 0 && r < sizes.length ? sizes[r] : 0;
        }

        /** Ahead of a row and behind it stands THE DEPOT. */
        int rowAt(int r, int k) {
            int i = r * STOPS + k;
            return k >= 0 && k < sizeOf(r) && i >= 0 && i < rows.length ? rows[i] : DEPOT;
        }

        int placeOf(int s) {
            int r = roundOf(s);
            for (int k = 0; k < sizeOf(r); k++) {
                if (rowAt(r, k) == s) {
                    return k;
                }
            }
            return NIL;
        }

        /** By a swap a STOP may stand in its new ROUND already: that one is not let go. */
        void emptyRow(int r) {
            for (int k = 0; k < sizeOf(r); k++) {
                int s = rowAt(r, k);
                if (s >= 0 && s < roundsOf.length && roundsOf[s] == r) {
                    roundsOf[s] = NIL;
                }
            }
            if (r >= 0 && r < sizes.length) {
                sizes[r] = 0;
            }
        }

        void appendToRow(int r, int s) {
            int k = sizeOf(r);
            int i = r * STOPS + k;
            if (!isRound(r) || s < 0 || s >= roundsOf.length || k >= STOPS || i < 0 || i >= rows.length) {
                return;
            }
            rows[i] = s;
            sizes[r] = k + 1;
            roundsOf[s] = r;
        }

        int apart(int x, int y, int toX, int toY) {
            int across = x > toX ? x - toX : toX - x;
            int along = y > toY ? y - toY : toY - y;
            int streets = across + along;
            int king = across > along ? across : along;
            if (metric == 0) {
                return streets;
            }
            return metric == 1 ? king : streets + king;
        }

        int way(int a, int b) {
            return apart(fact(a, X), fact(a, Y), fact(b, X), fact(b, Y));
        }

        int detour(int before, int s, int after) {
            return way(before, s) + way(s, after) - way(before, after);
        }

        int addsAt(int s, int r, int k) {
            int before = rowAt(r, k - 1);
            int after = rowAt(r, k);
            int miles = way(before, s) + way(s, after) - way(before, after);
            return miles + (sizeOf(r) == 0 ? fixed : 0);
        }

        int milesOf(int r) {
            int sum = 0;
            // One way more than there are STOPS: the last one is the way back.
            for (int k = 0; k <= sizeOf(r); k++) {
                sum += way(rowAt(r, k - 1), rowAt(r, k));
            }
            return sum;
        }

        int milesOfAll() {
            int sum = 0;
            for (int r = 0; r < ROUNDS; r++) {
                sum += milesOf(r);
            }
            return sum;
        }

        int usedRounds() {
            int used = 0;
            for (int r = 0; r < ROUNDS; r++) {
                used += sizeOf(r) > 0 ? 1 : 0;
            }
            return used;
        }

        int cost() {
            return milesOfAll() + fixed * usedRounds();
        }

        int looseCount() {
            int loose = 0;
            for (int s = 0; s < stopCount; s++) {
                loose += roundOf(s) == NIL ? 1 : 0;
            }
            return loose;
        }

        int lockedCount() {
            int many = 0;
            for (int s = 0; s < stopCount; s++) {
                many += isLocked(s) ? 1 : 0;
            }
            return many;
        }

        /** How many STOPS are DUE ahead of one: its place in DUE, without a row to be put in order. */
        int dueAhead(int s) {
            int ahead = 0;
            for (int t = 0; t < stopCount; t++) {
                int by = fact(t, LAST) - fact(s, LAST);
                if (by == 0) {
                    by = fact(t, FIRST) - fact(s, FIRST);
                }
                if (by == 0) {
                    by = t - s;
                }
                ahead += by < 0 ? 1 : 0;
            }
            return ahead;
        }
    }

    /** A ROUND's row to be changed in thought and followed, ahead of being kept. */
    private static final class Draft {
        final int[] row = new int[STOPS];
        final int[] comes = new int[STOPS];
        final int[] begins = new int[STOPS];
        final int[] slacks = new int[STOPS];
        int round;
        int size;
        int back;
        int loads;
        int miles;
        int waits;
        int lateAt;
        int later;

        void load(World w, int r) {
            round = r;
            size = w.sizeOf(r);
            for (int k = 0; k < size && k < STOPS; k++) {
                row[k] = w.rowAt(r, k);
            }
        }

        void keep(World w) {
            w.emptyRow(round);
            for (int k = 0; k < size && k < STOPS; k++) {
                w.appendToRow(round, row[k]);
            }
        }

        void insert(int k, int s) {
            if (k < 0 || k > size || size >= STOPS) {
                return;
            }
            for (int i = size; i > k; i--) {
                row[i] = row[i - 1];
            }
            row[k] = s;
            size++;
        }

        void drop(int k) {
            if (k < 0 || k >= size || size > STOPS) {
                return;
            }
            for (int i = k; i < size - 1; i++) {
                row[i] = row[i + 1];
            }
            size--;
        }

        void dropUnlocked(World w) {
            for (int k = size - 1; k >= 0; k--) {
                if (!w.isLocked(stopAt(k))) {
                    drop(k);
                }
            }
        }

        void replace(int k, int s) {
            if (k >= 0 && k < row.length) {
                row[k] = s;
            }
        }

        void reverse(int i, int j) {
            if (i < 0 || j >= row.length) {
                return;
            }
            for (int a = i, b = j; a < b; a++, b--) {
                int s = row[a];
                row[a] = row[b];
                row[b] = s;
            }
        }

        /** Goes the row, leaving so much later, up to where it is late first: whether it HOLDS. */
        boolean follow(World w, int leavesLater) {
            int time = w.ruleOf(round, LEAVE) + leavesLater;
            int before = DEPOT;
            loads = 0;
            miles = 0;
            waits = 0;
            lateAt = NIL;
            for (int k = 0; k < size && k < STOPS && lateAt == NIL; k++) {
                int s = row[k];
                int way = w.way(before, s);
                int first = w.fact(s, FIRST);
                comes[k] = time + way;
                begins[k] = comes[k] < first ? first : comes[k];
                lateAt = begins[k] > w.fact(s, LAST) ? k : NIL;
                miles += way;
                waits += begins[k] - comes[k];
                loads += w.fact(s, LOAD);
                time = begins[k] + w.fact(s, STAY);
                before = s;
            }
            int way = w.way(before, DEPOT);
            miles += way;
            back = time + way;
            // One without STOPS always HOLDS, whenever it leaves.
            if (size > 0 && lateAt == NIL && back > w.ruleOf(round, HOME)) {
                lateAt = size;
            }
            return lateAt == NIL && loads <= w.ruleOf(round, ROOM);
        }

        /** The SLACKS of a row that was followed: by when each must begin at most, told from behind. */
        void lookBack(World w) {
            int latest = w.ruleOf(round, HOME);
            int next = DEPOT;
            for (int k = size - 1; k >= 0 && k < STOPS; k--) {
                int s = row[k];
                int inTime = latest - w.way(s, next) - w.fact(s, STAY);
                int last = w.fact(s, LAST);
                latest = last < inTime ? last : inTime;
                slacks[k] = latest - begins[k];
                later = latest - comes[k];
                next = s;
            }
        }

        int stopAt(int k) {
            return k >= 0 && k < row.length ? row[k] : DEPOT;
        }

        int comesAt(int k) {
            return k >= 0 && k < comes.length ? comes[k] : NIL;
        }

        int beginsAt(int k) {
            return k >= 0 && k < begins.length ? begins[k] : NIL;
        }

        int slackAt(int k) {
            return k >= 0 && k < slacks.length ? slacks[k] : NIL;
        }

        int tightest() {
            int tight = NIL;
            int least = 0;
            for (int k = 0; k < size && k < STOPS; k++) {
                if (tight == NIL || slacks[k] < least) {
                    tight = row[k];
                    least = slacks[k];
                }
            }
            return tight;
        }

        int canLeaveLater() {
            return size > 0 ? later : NIL;
        }

        boolean isAsSeen(Pairs seen) {
            for (int i = 0; i < seen.size; i++) {
                for (int k = 0; k < size && k < STOPS; k++) {
                    if (row[k] == seen.leftAt(i) && begins[k] != seen.rightAt(i)) {
                        return false;
                    }
                }
            }
            return true;
        }
    }

    /** Looks for the CHEAPEST place of a STOP, and fills by regrets. */
    private static final class Filling {
        final Draft draft = new Draft();
        int round;
        int place;
        int adds;
        int regret;
        int chosen;
        int chosenRound;
        int chosenPlace;
        int chosenAdds;
        int chosenRegret;

        /** The CHEAPEST of the ROUNDS from one to another, and the REGRET among these. */
        void weigh(World w, int s, int from, int to) {
            round = NIL;
            regret = NO_SECOND;
            for (int r = from; r <= to && r < ROUNDS; r++) {
                int cheapest = NIL;
                int least = 0;
                for (int k = 0; k <= w.sizeOf(r); k++) {
                    int cost = w.addsAt(s, r, k);
                    // What isn't cheaper needn't be followed.
                    if (cheapest != NIL && cost >= least) {
                        continue;
                    }
                    draft.load(w, r);
                    draft.insert(k, s);
                    if (draft.follow(w, 0)) {
                        cheapest = k;
                        least = cost;
                    }
                }
                if (cheapest != NIL) {
                    compareRound(r, cheapest, least);
                }
            }
        }

        void compareRound(int r, int k, int cost) {
            if (round == NIL) {
                keepRound(r, k, cost);
            } else if (cost < adds) {
                regret = adds - cost;
                keepRound(r, k, cost);
            } else if (cost - adds < regret) {
                regret = cost - adds;
            }
        }

        void keepRound(int r, int k, int cost) {
            round = r;
            place = k;
            adds = cost;
        }

        int fillAll(World w) {
            int many = 0;
            for (int step = 0; step < STOPS; step++) {
                chosen = NIL;
                for (int s = 0; s < w.stopCount; s++) {
                    if (w.roundOf(s) == NIL) {
                        weigh(w, s, 0, ROUNDS - 1);
                        compareStop(s);
                    }
                }
                if (chosen == NIL) {
                    break;
                }
                draft.load(w, chosenRound);
                draft.insert(chosenPlace, chosen);
                draft.keep(w);
                many++;
            }
            return many;
        }

        /** STOPS come by number: of wholly like ones the first stays. */
        void compareStop(int s) {
            if (round == NIL) {
                return;
            }
            boolean isLike = regret == chosenRegret;
            if (chosen == NIL || regret > chosenRegret || isLike && adds < chosenAdds) {
                chosen = s;
                chosenRound = round;
                chosenPlace = place;
                chosenAdds = adds;
                chosenRegret = regret;
            }
        }
    }

    /** What MOVES gain, whether they may be, and the best of them. */
    private static final class Moves {
        final Draft one = new Draft();
        final Draft other = new Draft();
        boolean isOfTwo;
        int kind;
        int gain;
        int a;
        int b;
        int c;

        int foundFact(int what) {
            if (kind == NIL) {
                return NIL;
            }
            switch (what) {
                case 0:
                    return kind;
                case 1:
                    return gain;
                case 2:
                    return a;
                case 3:
                    return b;
                default:
                    return c;
            }
        }

        void find(World w) {
            kind = NIL;
            gain = 0;
            findTurns(w);
            findShifts(w);
            findSwaps(w);
        }

        void keepFound(int newKind, int newGain, int newA, int newB, int newC) {
            kind = newKind;
            gain = newGain;
            a = newA;
            b = newB;
            c = newC;
        }

        void findTurns(World w) {
            for (int r = 0; r < ROUNDS; r++) {
                int size = w.sizeOf(r);
                for (int i = 0; i < size; i++) {
                    for (int j = i + 1; j < size; j++) {
                        int gains = turnGain(w, r, i, j);
                        // Only what gains more is looked at further: of like ones the first stays.
                        if (gains > gain && tryTurn(w, r, i, j)) {
                            keepFound(TURN, gains, r, i, j);
                        }
                    }
                }
            }
        }

        void findShifts(World w) {
            for (int s = 0; s < w.stopCount; s++) {
                int from = w.roundOf(s);
                if (from == NIL || w.isLocked(s)) {
                    continue;
                }
                int own = w.placeOf(s);
                for (int r = 0; r < ROUNDS; r++) {
                    int top = r == from ? w.sizeOf(r) - 1 : w.sizeOf(r);
                    for (int k = 0; k <= top; k++) {
                        if (r == from && k == own) {
                            continue;
                        }
                        int gains = shiftGain(w, s, r, k);
                        if (gains > gain && tryShift(w, s, r, k)) {
                            keepFound(SHIFT, gains, s, r, k);
                        }
                    }
                }
            }
        }

        void findSwaps(World w) {
            for (int s = 0; s < w.stopCount; s++) {
                for (int t = s + 1; t < w.stopCount; t++) {
                    if (w.roundOf(s) == NIL || w.roundOf(t) == NIL) {
                        continue;
                    }
                    int gains = swapGain(w, s, t);
                    if (gains > gain && trySwap(w, s, t)) {
                        keepFound(SWAP, gains, s, t, NIL);
                    }
                }
            }
        }

        /** Does what was found last, if a MOVE was. */
        void perform(World w) {
            boolean may = false;
            switch (kind) {
                case TURN:
                    may = tryTurn(w, a, b, c);
                    break;
                case SHIFT:
                    may = tryShift(w, a, b, c);
                    break;
                case SWAP:
                    may = trySwap(w, a, b);
                    break;
                default:
                    break;
            }
            if (!may) {
                return;
            }
            one.keep(w);
            if (isOfTwo) {
                other.keep(w);
            }
        }

        /** What lies between i and j is as long the other way about. */
        int turnGain(World w, int r, int i, int j) {
            int before = w.rowAt(r, i - 1);
            int first = w.rowAt(r, i);
            int last = w.rowAt(r, j);
            int after = w.rowAt(r, j + 1);
            return w.way(before, first) + w.way(last, after) - w.way(before, last) - w.way(first, after);
        }

        int shiftGain(World w, int s, int r, int k) {
            int from = w.roundOf(s);
            int own = w.placeOf(s);
            int off = w.detour(w.rowAt(from, own - 1), s, w.rowAt(from, own + 1));
            if (r != from) {
                return off + (w.sizeOf(from) == 1 ? w.fixed : 0) - w.addsAt(s, r, k);
            }
            // k counts in the row without the STOP: from its own place on, all stand one further now.
            int before = w.rowAt(r, k - 1 < own ? k - 1 : k);
            int after = w.rowAt(r, k < own ? k : k + 1);
            return off - w.detour(before, s, after);
        }

        int swapGain(World w, int s, int t) {
            int r = w.roundOf(s);
            int i = w.placeOf(s);
            int j = w.placeOf(t);
            if (r == w.roundOf(t) && i - j == 1) {
                return turnGain(w, r, j, i);
            }
            if (r == w.roundOf(t) && j - i == 1) {
                return turnGain(w, r, i, j);
            }
            return standInGain(w, r, i, t) + standInGain(w, w.roundOf(t), j, s);
        }

        int standInGain(World w, int r, int k, int s) {
            int before = w.rowAt(r, k - 1);
            int was = w.rowAt(r, k);
            int after = w.rowAt(r, k + 1);
            return w.way(before, was) + w.way(was, after) - w.way(before, s) - w.way(s, after);
        }

        boolean tryTurn(World w, int r, int i, int j) {
            for (int k = i; k <= j && k < STOPS; k++) {
                if (w.isLocked(w.rowAt(r, k))) {
                    return false;
                }
            }
            isOfTwo = false;
            one.load(w, r);
            one.reverse(i, j);
            return one.follow(w, 0);
        }

        boolean tryShift(World w, int s, int r, int k) {
            if (w.isLocked(s)) {
                return false;
            }
            int from = w.roundOf(s);
            isOfTwo = r != from;
            one.load(w, from);
            one.drop(w.placeOf(s));
            if (!isOfTwo) {
                one.insert(k, s);
                return one.follow(w, 0);
            }
            other.load(w, r);
            other.insert(k, s);
            return one.follow(w, 0) && other.follow(w, 0);
        }

        boolean trySwap(World w, int s, int t) {
            if (w.isLocked(s) || w.isLocked(t)) {
                return false;
            }
            int r = w.roundOf(s);
            isOfTwo = r != w.roundOf(t);
            one.load(w, r);
            one.replace(w.placeOf(s), t);
            if (!isOfTwo) {
                one.replace(w.placeOf(t), s);
                return one.follow(w, 0);
            }
            other.load(w, w.roundOf(t));
            other.replace(w.placeOf(t), s);
            return one.follow(w, 0) && other.follow(w, 0);
        }
    }

    /** THE TEXT, and the CLAUSES that are read from it. */
    private static final class Reader {
        final int[] signs = new int[SIGNS];
        final int[] facts = new int[CLAUSES * FACTS];
        int size;
        int clauses;
        int next;
        int fault;

        int append(int sign) {
            if (size >= 0 && size < SIGNS) {
                signs[size] = sign;
                size++;
            }
            return size;
        }

        int factAt(int clause, int what) {
            int i = clause * FACTS + what;
            return i >= 0 && i < facts.length ? facts[i] : 0;
        }

        /** The FAULT, or NIL when there is none. */
        int parse() {
            next = 0;
            fault = NIL;
            clauses = 0;
            boolean goesOn = true;
            while (goesOn && clauses < CLAUSES) {
                parseClause(clauses);
                clauses++;
                goesOn = clauses < CLAUSES && skip(';');
            }
            if (fault < 0 && next < size) {
                fault = next;
            }
            return fault;
        }

        void parseClause(int clause) {
            keepFact(clause, X, number(2, 0, SIDE));
            expect(',');
            keepFact(clause, Y, number(2, 0, SIDE));
            keepFact(clause, LOAD, skip('*') ? number(2, 0, topOf(FACT_TOPS, LOAD)) : 1);
            int top = topOf(FACT_TOPS, LAST);
            boolean hasWindow = skip('@');
            int first = hasWindow ? number(3, 0, top) : 0;
            keepFact(clause, FIRST, first);
            if (hasWindow) {
                expect('-');
            }
            keepFact(clause, LAST, hasWindow ? number(3, first, top) : top);
            keepFact(clause, STAY, skip('+') ? number(2, 0, topOf(FACT_TOPS, STAY)) : 0);
        }

        void keepFact(int clause, int what, int v) {
            int i = clause * FACTS + what;
            if (i >= 0 && i < facts.length) {
                facts[i] = v;
            }
        }

        int nextSign() {
            return next >= 0 && next < size && next < SIGNS ? signs[next] : -1;
        }

        /** Behind the first FAULT nothing is read any more. */
        boolean skip(int sign) {
            if (fault >= 0 || nextSign() != sign) {
                return false;
            }
            next++;
            return true;
        }

        void expect(int sign) {
            if (!skip(sign) && fault < 0) {
                fault = next;
            }
        }

        int number(int digits, int least, int top) {
            if (fault >= 0) {
                return 0;
            }
            int from = next;
            int v = 0;
            for (int d = 0; d < digits && nextSign() >= '0' && nextSign() <= '9'; d++) {
                v = v * 10 + nextSign() - '0';
                next++;
            }
            if (next == from) {
                fault = next;
            } else if (v < least || v > top) {
                fault = next - 1;
            }
            return v;
        }
    }

    /** All TAPES in one row of longs: no call makes an array. */
    private static final class Tapes {
        final int[] sorts = new int[TAPES];
        final int[] sizes = new int[TAPES];
        final long[] items = new long[TAPES * ITEMS];

        Tapes() {
            for (int t = 0; t < TAPES; t++) {
                sorts[t] = EMPTY;
            }
        }

        boolean isTape(int t) {
            return t >= 0 && t < TAPES;
        }

        int sortOf(int t) {
            return t >= 0 && t < sorts.length ? sorts[t] : EMPTY;
        }

        void become(int t, int sort, int n) {
            if (t < 0 || t >= TAPES || n < 0 || n > ITEMS) {
                return;
            }
            sorts[t] = sort;
            sizes[t] = n;
            for (int i = 0; i < ITEMS; i++) {
                items[t * ITEMS + i] = 0;
            }
        }

        boolean hasItem(int t, int i) {
            return t >= 0 && t < TAPES && i >= 0 && i < sizes[t];
        }

        long itemAt(int t, int i) {
            int at = t * ITEMS + i;
            return hasItem(t, i) && at >= 0 && at < items.length ? items[at] : 0;
        }

        void setItem(int t, int i, long v) {
            int at = t * ITEMS + i;
            if (hasItem(t, i) && at >= 0 && at < items.length) {
                items[at] = cutTo(sortOf(t), v);
            }
        }

        static long cutTo(int sort, long v) {
            switch (sort) {
                case BYTES:
                    return (byte) v;
                case SHORTS:
                    return (short) v;
                case INTS:
                    return (int) v;
                case LONGS:
                    return v;
                default:
                    return v != 0 ? 1 : 0;
            }
        }

        /** Asked by a difference, as i and n together might be more than an int holds. */
        boolean hasPart(int t, int i, int n) {
            return t >= 0 && t < TAPES && i >= 0 && n >= 0 && n <= sizes[t] && i <= sizes[t] - n;
        }

        /** arraycopy within one row is as if it went by a copy: what overlaps comes as it was before. */
        void copyPart(int t, int i, int other, int j, int n) {
            if (hasPart(t, i, n) && hasPart(other, j, n)) {
                System.arraycopy(items, t * ITEMS + i, items, other * ITEMS + j, n);
            }
        }
    }
}
