/** Who does what, best, next best and on: see README.md for how it is used. */
public final class NextBest {
    public static final int NONE = -1;
    public static final long NO_SUCH = Long.MIN_VALUE;
    public static final long NEVER = Long.MAX_VALUE;

    private static final int UNKNOWN = -2;
    private static final int FAULTY = -4;
    private static final int REFUSED = -5;

    private static final int MOST_WORKERS = 7;
    private static final int MOST_JOBS = 8;
    private static final int JOB_SETS = 1 << MOST_JOBS;
    private static final int TOP_COST = 9999;
    private static final int RANKED = 200;
    private static final int MOST_STEP = 99;
    private static final int BY_WORKER = 0;
    private static final int BY_JOB = 1;

    private final Tape tape = new Tape();
    private final Grid grid = new Grid();
    private final Ranks ranks = new Ranks(grid);
    private final Order order = new Order(grid, ranks);
    /* What a question only supposes is laid out here, so that the grid itself stays as it is. */
    private final Grid draft = new Grid();
    private final Ranks supposed = new Ranks(draft);
    private final Reader reader = new Reader(tape, draft);
    private final History history = new History();
    private final Rules rules = new Rules(grid, draft, supposed);
    private final Greed greed = new Greed(grid);
    private final Sale sale = new Sale(grid);
    private final Moves moves = new Moves(grid);
    private final Ways ways = new Ways();
    private final int[] row = new int[MOST_WORKERS];
    private final int[] otherRow = new int[MOST_WORKERS];

    public NextBest() {
        ranks.refresh();
    }

    // ---- the tape and the table

    public int feed(int a, int b, int c, int d, int e) {
        if (!tape.hasRoom(20)) {
            return NONE;
        }
        tape.addNumber(a);
        tape.addNumber(b);
        tape.addNumber(c);
        tape.addNumber(d);
        tape.addNumber(e);
        return tape.length;
    }

    public int end(int n) {
        return tape.cut(n) ? n : NONE;
    }

    public int table() {
        boolean told = reader.read();
        tape.cut(0);
        if (!told) {
            return FAULTY;
        }
        grid.copy(draft);
        history.clear();
        changed();
        return grid.workers;
    }

    public int fault(int what) {
        if (what == 0) {
            return reader.found;
        }
        return what == 1 ? reader.foundAt : NONE;
    }

    public int count(int what) {
        switch (what) {
            case 0:
                return grid.workers;
            case 1:
                return grid.jobs;
            case 2:
                return grid.barred();
            case 3:
                return ranks.all();
            case 4:
                return history.size;
            case 5:
                return tape.length;
            default:
                return NONE;
        }
    }

    public long cost(int worker, int job) {
        return grid.has(worker, job) ? grid.at(worker, job) : NO_SUCH;
    }

    // ---- assignments in their order

    public long sum(int k) {
        return isRank(k) ? order.sumOf(k) : NO_SUCH;
    }

    public int job(int k, int worker) {
        if (!isRank(k) || !grid.hasWorker(worker)) {
            return UNKNOWN;
        }
        return order.lay(k, row) ? row[worker] : NONE;
    }

    public int ties(int k) {
        if (!isRank(k)) {
            return UNKNOWN;
        }
        long total = order.sumOf(k);
        return total == NO_SUCH ? NONE : ranks.alike(total);
    }

    public int under(long most) {
        return ranks.upTo(most);
    }

    public int place(int told) {
        return grid.decode(told, row) ? ranks.before(row) : NONE;
    }

    public int drawn(long seed) {
        int all = ranks.all();
        if (all <= 0) {
            return NONE;
        }
        long stirred = seed * 6364136223846793005L + 1442695040888963407L;
        return (int) ((stirred >>> 33) % all);
    }

    public long middle() {
        int all = ranks.all();
        return all == 0 ? NO_SUCH : order.sumAt((all - 1) / 2);
    }

    public long loss(int k) {
        long above = isRank(k) ? order.sumOf(k) : NO_SUCH;
        if (above == NO_SUCH) {
            return NO_SUCH;
        }
        for (int worker = 0; worker < grid.workers; worker++) {
            above -= grid.leastOf(worker, BY_WORKER);
        }
        return above;
    }

    public long dearest(int k) {
        if (grid.workers == 0 || !isRank(k) || !order.lay(k, row)) {
            return NO_SUCH;
        }
        return grid.greatestOf(row);
    }

    public int apart(int k, int l) {
        if (!isRank(k) || !isRank(l)) {
            return UNKNOWN;
        }
        if (!order.lay(k, row) || !order.lay(l, otherRow)) {
            return NONE;
        }
        int unlike = 0;
        for (int worker = 0; worker < grid.workers; worker++) {
            if (row[worker] != otherRow[worker]) {
                unlike++;
            }
        }
        return unlike;
    }

    public int rounds(int k, int l, int what) {
        if (!isRank(k) || !isRank(l) || what < 0 || what > 3) {
            return UNKNOWN;
        }
        if (!order.lay(k, row) || !order.lay(l, otherRow)) {
            return NONE;
        }
        ways.trace(row, otherRow, grid.workers);
        switch (what) {
            case 0:
                return ways.rings;
            case 1:
                return ways.chains;
            case 2:
                return ways.longest;
            default:
                return ways.steps;
        }
    }

    public int often(int worker, int job, int n) {
        if (!grid.has(worker, job) || n < 1 || n > RANKED) {
            return UNKNOWN;
        }
        return order.with(worker, job, n);
    }

    // ---- what is forced, left out, how far a cost may go

    public long forced(int worker, int job) {
        if (!grid.has(worker, job)) {
            return NO_SUCH;
        }
        supposeForced(worker, job);
        return supposed.leastSum();
    }

    public long without(int worker, int job) {
        if (!grid.has(worker, job)) {
            return NO_SUCH;
        }
        supposeCost(worker, job, NEVER);
        return supposed.leastSum();
    }

    public long stays(int worker, int job, int what) {
        if (!grid.has(worker, job) || grid.at(worker, job) == NEVER || !ranks.findFirst(row)) {
            return NO_SUCH;
        }
        boolean taken = row[worker] == job;
        if (what != (taken ? 1 : 0)) {
            return NO_SUCH;
        }
        long rival = taken ? without(worker, job) : forced(worker, job);
        if (rival == NO_SUCH) {
            return NO_SUCH;
        }
        long slack = rival - ranks.leastSum();
        return grid.at(worker, job) + (taken ? slack : -slack);
    }

    public long would(int worker, int job, int v) {
        if (!grid.has(worker, job) || !isCost(v)) {
            return NO_SUCH;
        }
        supposeCost(worker, job, v);
        return supposed.leastSum();
    }

    public int ever(int worker) {
        if (!grid.hasWorker(worker)) {
            return UNKNOWN;
        }
        long best = ranks.leastSum();
        int found = 0;
        for (int job = 0; job < grid.jobs && best != NO_SUCH; job++) {
            if (forced(worker, job) == best) {
                found |= 1 << job;
            }
        }
        return found;
    }

    public long only(int set) {
        if (set < 0 || set >= 1 << grid.jobs) {
            return NO_SUCH;
        }
        draft.copy(grid);
        for (int job = 0; job < grid.jobs; job++) {
            if ((set >> job & 1) == 0) {
                draft.barJob(job);
            }
        }
        supposed.refresh();
        return supposed.leastSum();
    }

    public int blocked() {
        int sets = 1 << grid.workers;
        for (int set = 1; set < sets; set++) {
            if (Integer.bitCount(grid.jobsOpenTo(set)) < Integer.bitCount(set)) {
                return set;
            }
        }
        return 0;
    }

    // ---- prices, pay

    public long price(int job) {
        if (!grid.hasJob(job)) {
            return NO_SUCH;
        }
        draft.copy(grid);
        draft.barJob(job);
        supposed.refresh();
        return difference(supposed.leastSum(), ranks.leastSum());
    }

    public long pay(int worker) {
        if (!grid.hasWorker(worker) || !ranks.findFirst(row)) {
            return NO_SUCH;
        }
        draft.copy(grid);
        draft.dropWorker(worker);
        supposed.refresh();
        long withAll = supposed.leastSum();
        draft.barJob(row[worker]);
        supposed.refresh();
        return difference(supposed.leastSum(), withAll);
    }

    // ---- first by a rule

    public long first(int rule, int limit, int what) {
        if (!isRule(rule) || what < 0 || what > 1 || !rules.choose(rule, limit)) {
            return NO_SUCH;
        }
        return what == 0 ? rules.measure(rule, limit) : grid.sumOf(rules.chosen);
    }

    public int firstJob(int rule, int limit, int worker) {
        if (!isRule(rule) || !grid.hasWorker(worker)) {
            return UNKNOWN;
        }
        return rules.choose(rule, limit) ? rules.chosen[worker] : NONE;
    }

    // ---- greed, mending, the auction, one move

    public long greedy(int what) {
        if (what < 0 || what > 1) {
            return NO_SUCH;
        }
        greed.take();
        return what == 0 ? greed.total : greed.placed;
    }

    public int greedyJob(int worker) {
        if (!grid.hasWorker(worker)) {
            return UNKNOWN;
        }
        greed.take();
        return greed.jobOf[worker];
    }

    public long mended(int what) {
        if (what < 0 || what > 1) {
            return NO_SUCH;
        }
        greed.take();
        if (greed.placed < grid.workers) {
            return NO_SUCH;
        }
        greed.mend();
        return what == 0 ? greed.total : greed.steps;
    }

    public long auction(int step, int what) {
        if (!isStep(step) || what < 0 || what > 2) {
            return NO_SUCH;
        }
        sale.hold(step);
        if (what == 0) {
            return sale.bids;
        }
        if (what == 2) {
            return sale.total();
        }
        return sale.waits == 0 ? 1 : 0;
    }

    public int auctionPrice(int step, int job) {
        if (!isStep(step) || !grid.hasJob(job)) {
            return UNKNOWN;
        }
        sale.hold(step);
        return (int) sale.prices[job];
    }

    public int auctionJob(int step, int worker) {
        if (!isStep(step) || !grid.hasWorker(worker)) {
            return UNKNOWN;
        }
        sale.hold(step);
        return sale.jobOf[worker];
    }

    public long move(int told, int what) {
        if (what < 0 || what > 2 || !grid.decode(told, row) || !moves.search(row)) {
            return NO_SUCH;
        }
        if (what == 0) {
            return moves.change;
        }
        return what == 1 ? Integer.bitCount(moves.movers) : moves.movers;
    }

    // ---- single costs

    public long least(int one, int what) {
        if (!grid.hasLine(one, what)) {
            return NO_SUCH;
        }
        long found = grid.leastOf(one, what);
        return found == NEVER ? NO_SUCH : found;
    }

    public long reduced(int worker, int job) {
        return grid.has(worker, job) ? grid.reducedAt(worker, job) : NO_SUCH;
    }

    public int noughts() {
        int found = 0;
        for (int worker = 0; worker < grid.workers; worker++) {
            for (int job = 0; job < grid.jobs; job++) {
                if (grid.reducedAt(worker, job) == 0) {
                    found++;
                }
            }
        }
        return found;
    }

    // ---- acts

    public int sets(int worker, int job, int v) {
        if (!grid.has(worker, job) || !isCost(v)) {
            return UNKNOWN;
        }
        return changeCost(worker, job, v);
    }

    public int bars(int worker, int job) {
        return grid.has(worker, job) ? changeCost(worker, job, NEVER) : UNKNOWN;
    }

    public int tilts(int one, int v, int what) {
        if (!grid.hasLine(one, what)) {
            return UNKNOWN;
        }
        if (!grid.bearsTilt(one, v, what)) {
            return REFUSED;
        }
        int hit = grid.openIn(one, what);
        if (hit > 0 && v != 0) {
            history.keep(grid);
            grid.tilt(one, v, what);
            changed();
        }
        return hit;
    }

    public int comes(int what, int v) {
        if (!isKind(what) || !isCost(v)) {
            return UNKNOWN;
        }
        int most = what == BY_WORKER ? MOST_WORKERS : MOST_JOBS;
        int number = grid.howMany(what);
        if (number >= most) {
            return REFUSED;
        }
        history.keep(grid);
        if (what == BY_WORKER) {
            grid.addWorker(v);
        } else {
            grid.addJob(v);
        }
        changed();
        return number;
    }

    public int goes(int one, int what) {
        if (!grid.hasLine(one, what)) {
            return UNKNOWN;
        }
        history.keep(grid);
        if (what == BY_WORKER) {
            grid.dropWorker(one);
        } else {
            grid.dropJob(one);
        }
        changed();
        return grid.howMany(what);
    }

    public int turn(int worker, int other) {
        if (!grid.hasWorker(worker) || !grid.hasWorker(other)) {
            return UNKNOWN;
        }
        if (grid.sameCosts(worker, other)) {
            return 0;
        }
        history.keep(grid);
        grid.swap(worker, other);
        changed();
        return 1;
    }

    public int undo() {
        if (!history.restore(grid)) {
            return NONE;
        }
        changed();
        return history.size;
    }

    // ---- what the calls share

    private static boolean isRank(int k) {
        return k >= 0 && k < RANKED;
    }

    private static boolean isRule(int rule) {
        return rule >= 0 && rule <= 3;
    }

    private static boolean isStep(int step) {
        return step >= 1 && step <= MOST_STEP;
    }

    private static boolean isKind(int what) {
        return what == BY_WORKER || what == BY_JOB;
    }

    private static boolean isCost(long v) {
        return v >= -TOP_COST && v <= TOP_COST;
    }

    private static long difference(long one, long other) {
        return one == NO_SUCH || other == NO_SUCH ? NO_SUCH : one - other;
    }

    private void changed() {
        ranks.refresh();
        order.forget();
    }

    private void supposeCost(int worker, int job, long v) {
        draft.copy(grid);
        draft.put(worker, job, v);
        supposed.refresh();
    }

    private void supposeForced(int worker, int job) {
        draft.copy(grid);
        for (int other = 0; other < grid.jobs; other++) {
            if (other != job) {
                draft.put(worker, other, NEVER);
            }
        }
        supposed.refresh();
    }

    private int changeCost(int worker, int job, long v) {
        if (grid.at(worker, job) == v) {
            return 0;
        }
        history.keep(grid);
        grid.put(worker, job, v);
        changed();
        return 1;
    }

    /** The bytes that wait to be read. */
    private static final class Tape {
        private static final int MOST = 600;

        private final byte[] bytes = new byte[MOST];
        private int length;

        boolean hasRoom(int more) {
            return length + more <= MOST;
        }

        void addNumber(int number) {
            for (int shift = 24; shift >= 0 && length < MOST; shift -= 8) {
                bytes[length] = (byte) (number >> shift);
                length++;
            }
        }

        boolean cut(int n) {
            if (n < 0 || n > length) {
                return false;
            }
            length = n;
            return true;
        }

        /** The byte at a place, 0 .. 255; NONE where there is none. */
        int at(int index) {
            return index >= 0 && index < length ? bytes[index] & 255 : NONE;
        }
    }

    /** Workers, jobs and what each would cost; outside of its bounds all is NEVER. */
    private static final class Grid {
        private final long[] costs = new long[MOST_WORKERS * MOST_JOBS];
        private int workers;
        private int jobs;

        void clear() {
            workers = 0;
            jobs = 0;
        }

        void copy(Grid other) {
            workers = other.workers;
            jobs = other.jobs;
            for (int i = 0; i < costs.length; i++) {
                costs[i] = other.costs[i];
            }
        }

        boolean hasWorker(int worker) {
            return worker >= 0 && worker < workers;
        }

        boolean hasJob(int job) {
            return job >= 0 && job < jobs;
        }

        boolean has(int worker, int job) {
            return worker >= 0 && worker < workers && job >= 0 && job < jobs;
        }

        int howMany(int what) {
            return what == BY_WORKER ? workers : jobs;
        }

        boolean hasLine(int one, int what) {
            return isKind(what) && one >= 0 && one < howMany(what);
        }

        long at(int worker, int job) {
            boolean there = worker >= 0 && worker < workers && job >= 0 && job < jobs;
            return there ? costs[worker * MOST_JOBS + job] : NEVER;
        }

        void put(int worker, int job, long v) {
            if (has(worker, job)) {
                costs[worker * MOST_JOBS + job] = v;
            }
        }

        private int across(int what) {
            return what == BY_WORKER ? jobs : workers;
        }

        private long inLine(int one, int what, int i) {
            return what == BY_WORKER ? at(one, i) : at(i, one);
        }

        int barred() {
            int found = 0;
            for (int worker = 0; worker < workers; worker++) {
                found += jobs - openIn(worker, BY_WORKER);
            }
            return found;
        }

        int openIn(int one, int what) {
            int found = 0;
            for (int i = 0; i < across(what); i++) {
                if (inLine(one, what, i) != NEVER) {
                    found++;
                }
            }
            return found;
        }

        long leastOf(int one, int what) {
            long found = NEVER;
            for (int i = 0; i < across(what); i++) {
                found = Math.min(found, inLine(one, what, i));
            }
            return found;
        }

        boolean bearsTilt(int one, long v, int what) {
            for (int i = 0; i < across(what); i++) {
                long now = inLine(one, what, i);
                if (now != NEVER && !isCost(now + v)) {
                    return false;
                }
            }
            return true;
        }

        void tilt(int one, long v, int what) {
            for (int i = 0; i < across(what); i++) {
                long now = inLine(one, what, i);
                if (now != NEVER) {
                    put(what == BY_WORKER ? one : i, what == BY_WORKER ? i : one, now + v);
                }
            }
        }

        void addWorker(long v) {
            if (workers < MOST_WORKERS) {
                workers++;
                for (int job = 0; job < jobs; job++) {
                    put(workers - 1, job, v);
                }
            }
        }

        void addJob(long v) {
            if (jobs < MOST_JOBS) {
                jobs++;
                for (int worker = 0; worker < workers; worker++) {
                    put(worker, jobs - 1, v);
                }
            }
        }

        void dropWorker(int one) {
            if (!hasWorker(one)) {
                return;
            }
            for (int worker = one; worker < workers - 1; worker++) {
                for (int job = 0; job < jobs; job++) {
                    put(worker, job, at(worker + 1, job));
                }
            }
            workers--;
        }

        void dropJob(int one) {
            if (!hasJob(one)) {
                return;
            }
            for (int worker = 0; worker < workers; worker++) {
                for (int job = one; job < jobs - 1; job++) {
                    put(worker, job, at(worker, job + 1));
                }
            }
            jobs--;
        }

        void barJob(int job) {
            for (int worker = 0; worker < workers; worker++) {
                put(worker, job, NEVER);
            }
        }

        boolean sameCosts(int worker, int other) {
            for (int job = 0; job < jobs; job++) {
                if (at(worker, job) != at(other, job)) {
                    return false;
                }
            }
            return true;
        }

        void swap(int worker, int other) {
            for (int job = 0; job < jobs; job++) {
                long kept = at(worker, job);
                put(worker, job, at(other, job));
                put(other, job, kept);
            }
        }

        /** The jobs, as bits, that are open to at least one of these workers. */
        int jobsOpenTo(int set) {
            int open = 0;
            for (int worker = 0; worker < workers; worker++) {
                for (int job = 0; job < jobs; job++) {
                    if ((set >> worker & 1) == 1 && at(worker, job) != NEVER) {
                        open |= 1 << job;
                    }
                }
            }
            return open;
        }

        long reducedAt(int worker, int job) {
            long here = lessRow(worker, job);
            if (here == NEVER) {
                return NEVER;
            }
            long least = here;
            for (int other = 0; other < workers; other++) {
                least = Math.min(least, lessRow(other, job));
            }
            return here - least;
        }

        private long lessRow(int worker, int job) {
            long now = at(worker, job);
            return now == NEVER ? NEVER : now - leastOf(worker, BY_WORKER);
        }

        long sumOf(int[] row) {
            long total = 0;
            for (int worker = 0; worker < workers && worker < row.length; worker++) {
                total += at(worker, row[worker]);
            }
            return total;
        }

        long greatestOf(int[] row) {
            long found = NO_SUCH;
            for (int worker = 0; worker < workers && worker < row.length; worker++) {
                found = Math.max(found, at(worker, row[worker]));
            }
            return found;
        }

        long smallestOf(int[] row) {
            long found = NEVER;
            for (int worker = 0; worker < workers && worker < row.length; worker++) {
                found = Math.min(found, at(worker, row[worker]));
            }
            return found;
        }

        /** Lays out in the row the assignment that is told; false if it is none. */
        boolean decode(int told, int[] row) {
            if (told < 0 || row.length < workers) {
                return false;
            }
            int rest = told;
            int taken = 0;
            for (int worker = workers - 1; worker >= 0; worker--) {
                int job = rest & 7;
                if (at(worker, job) == NEVER || (taken >> job & 1) == 1) {
                    return false;
                }
                row[worker] = job;
                taken |= 1 << job;
                rest >>= 3;
            }
            return rest == 0;
        }
    }

    /** The grids as they were ahead of the latest acts. */
    private static final class History {
        private static final int MOST = 10;

        private final Grid[] kept = new Grid[MOST];
        private int oldest;
        private int size;

        History() {
            for (int i = 0; i < MOST; i++) {
                kept[i] = new Grid();
            }
        }

        void clear() {
            size = 0;
        }

        void keep(Grid grid) {
            if (size == MOST) {
                oldest = (oldest + 1) % MOST;
                size--;
            }
            kept[(oldest + size) % MOST].copy(grid);
            size++;
        }

        boolean restore(Grid grid) {
            if (size == 0) {
                return false;
            }
            size--;
            grid.copy(kept[(oldest + size) % MOST]);
            return true;
        }
    }

    /** Reads a table from the tape, up to the first fault. */
    private static final class Reader {
        private static final int AT_END = 0;
        private static final int STRANGE = 1;
        private static final int NUMBER = 2;
        private static final int JOBS = 3;
        private static final int WORKER = 4;
        private static final int BARRED = 5;
        private static final int CLOSE = 6;
        private static final int COMMA = 7;
        private static final int MINUS = 8;

        private static final int MISPLACED = 1;
        private static final int OUT_OF_BOUNDS = 2;
        private static final int TOO_MANY = 3;
        private static final int TOO_FEW = 4;

        private final Tape tape;
        private final Grid grid;
        private int kind;
        private int from;
        private int next;
        private int value;
        private int found;
        private int foundAt = NONE;

        Reader(Tape tape, Grid grid) {
            this.tape = tape;
            this.grid = grid;
        }

        boolean read() {
            grid.clear();
            found = 0;
            foundAt = NONE;
            next = 0;
            step();
            if (kind == AT_END) {
                return true;
            }
            boolean right = readJobs();
            for (int line = 0; right && kind != AT_END && line < Tape.MOST; line++) {
                right = readWorker();
            }
            return right;
        }

        private boolean fail(int which) {
            found = which;
            foundAt = from;
            return false;
        }

        private boolean readJobs() {
            if (kind != JOBS) {
                return fail(MISPLACED);
            }
            step();
            if (kind != NUMBER) {
                return fail(MISPLACED);
            }
            if (value < 1 || value > MOST_JOBS) {
                return fail(OUT_OF_BOUNDS);
            }
            grid.jobs = value;
            step();
            if (kind != CLOSE) {
                return fail(MISPLACED);
            }
            step();
            return true;
        }

        private boolean readWorker() {
            if (kind != WORKER) {
                return fail(MISPLACED);
            }
            if (grid.workers >= MOST_WORKERS) {
                return fail(TOO_MANY);
            }
            grid.addWorker(NEVER);
            int given = 0;
            do {
                step();
                if (!readCost(given)) {
                    return false;
                }
                given++;
            } while (kind == COMMA && given <= MOST_JOBS);
            if (kind != CLOSE) {
                return fail(MISPLACED);
            }
            if (given < grid.jobs) {
                return fail(TOO_FEW);
            }
            step();
            return true;
        }

        private boolean readCost(int job) {
            if (kind != BARRED && kind != MINUS && kind != NUMBER) {
                return fail(MISPLACED);
            }
            if (kind == NUMBER && value > TOP_COST) {
                return fail(OUT_OF_BOUNDS);
            }
            if (job >= grid.jobs) {
                return fail(TOO_MANY);
            }
            long told = kind == NUMBER ? value : NEVER;
            if (kind == MINUS) {
                step();
                if (kind != NUMBER) {
                    return fail(MISPLACED);
                }
                if (value > TOP_COST) {
                    return fail(OUT_OF_BOUNDS);
                }
                told = -value;
            }
            grid.put(grid.workers - 1, job, told);
            step();
            return true;
        }

        private void step() {
            from = next;
            while (from < tape.length && isBlank(tape.at(from))) {
                from++;
            }
            int sign = tape.at(from);
            next = from + 1;
            if (isDigit(sign)) {
                kind = NUMBER;
                stepOverNumber();
            } else if (isLetter(sign)) {
                stepOverWord();
                kind = spells("jobs") ? JOBS : spells("worker") ? WORKER : spells("x") ? BARRED : STRANGE;
            } else {
                kind = kindOfSign(sign);
            }
        }

        private void stepOverNumber() {
            value = 0;
            next = from;
            while (next < tape.length && isDigit(tape.at(next))) {
                // beyond any bound it need not grow, so that it can't wrap round
                value = Math.min(value * 10 + tape.at(next) - '0', TOP_COST + 1);
                next++;
            }
        }

        private void stepOverWord() {
            while (next < tape.length && isLetter(tape.at(next))) {
                next++;
            }
        }

        private boolean spells(String word) {
            if (next - from != word.length()) {
                return false;
            }
            for (int i = 0; i < word.length(); i++) {
                if (tape.at(from + i) != word.charAt(i)) {
                    return false;
                }
            }
            return true;
        }

        private static int kindOfSign(int sign) {
            switch (sign) {
                case NONE:
                    return AT_END;
                case ';':
                    return CLOSE;
                case ',':
                    return COMMA;
                case '-':
                    return MINUS;
                default:
                    return STRANGE;
            }
        }

        private static boolean isBlank(int sign) {
            return sign == 32 || sign == 10;
        }

        private static boolean isDigit(int sign) {
            return sign >= '0' && sign <= '9';
        }

        private static boolean isLetter(int sign) {
            return sign >= 'a' && sign <= 'z';
        }
    }

    /**
     * The assignments of a grid in their order. For each set of jobs that the first workers may
     * have taken it knows how many ways the others can go on, and their least and greatest sum:
     * so it counts without going through all of them.
     */
    private static final class Ranks {
        /* Below any sum, and far from where a long goes round. */
        private static final long LOWEST = -1000000000;

        private final Grid grid;
        private final int[] many = new int[JOB_SETS];
        private final long[] low = new long[JOB_SETS];
        private final long[] high = new long[JOB_SETS];

        Ranks(Grid grid) {
            this.grid = grid;
        }

        void refresh() {
            for (int set = (1 << grid.jobs) - 1; set >= 0; set--) {
                settle(set, Integer.bitCount(set));
            }
        }

        private void settle(int set, int worker) {
            boolean allPlaced = worker >= grid.workers;
            int ways = worker == grid.workers ? 1 : 0;
            long least = allPlaced ? 0 : NEVER;
            long greatest = allPlaced ? 0 : NO_SUCH;
            for (int job = 0; !allPlaced && job < grid.jobs; job++) {
                int then = set | 1 << job;
                long cost = grid.at(worker, job);
                if (then != set && cost != NEVER && many[then] > 0) {
                    ways += many[then];
                    least = Math.min(least, cost + low[then]);
                    greatest = Math.max(greatest, cost + high[then]);
                }
            }
            many[set] = ways;
            low[set] = least;
            high[set] = greatest;
        }

        int all() {
            return many[0];
        }

        long leastSum() {
            return many[0] == 0 ? NO_SUCH : low[0];
        }

        int upTo(long most) {
            return between(0, 0, LOWEST, most);
        }

        int alike(long total) {
            return between(0, 0, total, total);
        }

        /** How many ways go on from a set with a sum of least .. most. */
        private int between(int set, int worker, long least, long most) {
            if (set < 0 || set >= JOB_SETS || many[set] == 0 || low[set] > most || high[set] < least) {
                return 0;
            }
            if (low[set] >= least && high[set] <= most) {
                return many[set];
            }
            return search(this, set, worker, least, most);
        }

        /* What a glance at the next set tells is not gone into: most sets are done with so. */
        private static int search(Ranks ranks, int set, int worker, long least, long most) {
            int found = 0;
            for (int job = 0; worker < ranks.grid.workers && job < ranks.grid.jobs; job++) {
                int then = set | 1 << job;
                long cost = ranks.grid.at(worker, job);
                if (then == set || cost == NEVER || ranks.many[then] == 0) {
                    continue;
                }
                long atLeast = least - cost;
                long atMost = most - cost;
                if (ranks.low[then] >= atLeast && ranks.high[then] <= atMost) {
                    found += ranks.many[then];
                } else if (ranks.low[then] <= atMost && ranks.high[then] >= atLeast) {
                    found += search(ranks, then, worker + 1, atLeast, atMost);
                }
            }
            return found;
        }

        /** How many come ahead of an assignment. */
        int before(int[] row) {
            long rest = grid.sumOf(row);
            int found = upTo(rest - 1);
            int set = 0;
            for (int worker = 0; worker < grid.workers && worker < row.length; worker++) {
                for (int job = 0; job < row[worker]; job++) {
                    long cost = grid.at(worker, job);
                    if (cost != NEVER && (set >> job & 1) == 0) {
                        found += between(set | 1 << job, worker + 1, rest - cost, rest - cost);
                    }
                }
                set |= 1 << row[worker];
                rest -= grid.at(worker, row[worker]);
            }
            return found;
        }

        /** Lays out the first in the row; false if there is none. */
        boolean findFirst(int[] row) {
            if (many[0] == 0 || row.length < grid.workers) {
                return false;
            }
            int set = 0;
            for (int worker = 0; worker < grid.workers; worker++) {
                row[worker] = leastGoingOn(set, worker);
                set |= 1 << row[worker];
            }
            return true;
        }

        private int leastGoingOn(int set, int worker) {
            for (int job = 0; job < grid.jobs; job++) {
                int then = set | 1 << job;
                long cost = grid.at(worker, job);
                if (then != set && cost != NEVER && many[then] > 0 && cost + low[then] == low[set]) {
                    return job;
                }
            }
            return 0;
        }
    }

    /** The assignments by order: the sum of any, and a list of those that calls can ask for. */
    private static final class Order {
        private static final int PARTS = 64;
        private static final int PART_BITS = 6;
        /* Sums lie within 14 times 9999 of one another, which is less than 2 to the 18th. */
        private static final int ROUNDS = 3;
        private static final int WIDEST = 12;

        private final Grid grid;
        private final Ranks ranks;
        private final int[] codes = new int[RANKED];
        private final long[] sums = new long[RANKED];
        private boolean listed;
        private int size;
        private long lastSum;
        /* Of those with the last sum only so many, the first by their rows, still belong here. */
        private int roomForLast;
        private final int[] parts = new int[PARTS];
        private int shift;
        private int skip;
        /* Beyond this part the one that is looked for can't lie any more. */
        private int topPart;
        private int upToTop;

        Order(Grid grid, Ranks ranks) {
            this.grid = grid;
            this.ranks = ranks;
        }

        void forget() {
            listed = false;
        }

        /** The sum of the k-th; NO_SUCH if there is none. */
        long sumOf(int k) {
            if (k == 0) {
                return ranks.leastSum();
            }
            list();
            return k > 0 && k < size ? sums[k] : NO_SUCH;
        }

        /** Lays out the k-th in the row; false if there is none. */
        boolean lay(int k, int[] row) {
            if (k == 0) {
                return ranks.findFirst(row);
            }
            list();
            return k > 0 && k < size && grid.decode(codes[k], row);
        }

        /** In how many of the first n the worker has the job. */
        int with(int worker, int job, int n) {
            list();
            int digit = 3 * (grid.workers - 1 - worker);
            int found = 0;
            for (int k = 0; k < n && k < size; k++) {
                if ((codes[k] >> digit & 7) == job) {
                    found++;
                }
            }
            return found;
        }

        /** The sum of the k-th, which must be there, whatever k: by ever narrower parts. */
        long sumAt(int k) {
            long from = ranks.low[0];
            long span = ranks.high[0] - from;
            skip = k;
            shift = 0;
            while (shift < WIDEST && span >> shift >= PARTS) {
                shift++;
            }
            for (int round = 0; round < ROUNDS && span > 0; round++) {
                from += (long) partOfSkipped(from) << shift;
                span = (1 << shift) - 1;
                shift = Math.max(0, shift - PART_BITS);
            }
            return from;
        }

        /** In which part the one behind those skipped lies; what is skipped then, is so within it. */
        private int partOfSkipped(long from) {
            for (int part = 0; part < PARTS; part++) {
                parts[part] = 0;
            }
            topPart = PARTS - 1;
            upToTop = 0;
            spread(this, 0, 0, -from);
            int part = 0;
            while (part < PARTS - 1 && skip >= parts[part]) {
                skip -= parts[part];
                part++;
            }
            return part;
        }

        /** Counts into the parts what goes on from a set; sums are told from where the parts begin. */
        private static void spread(Order order, int set, int worker, long soFar) {
            Ranks ranks = order.ranks;
            for (int job = 0; worker < order.grid.workers && job < order.grid.jobs; job++) {
                int then = set | 1 << job;
                long cost = order.grid.at(worker, job);
                if (then == set || cost == NEVER || ranks.many[then] == 0) {
                    continue;
                }
                long least = soFar + cost + ranks.low[then];
                long greatest = soFar + cost + ranks.high[then];
                if (greatest < 0 || least >> order.shift > order.topPart) {
                    continue;
                }
                if (least >= 0 && least >> order.shift == greatest >> order.shift) {
                    order.addToPart((int) (least >> order.shift), ranks.many[then]);
                } else {
                    spread(order, then, worker + 1, soFar + cost);
                }
            }
        }

        private void addToPart(int part, int ways) {
            if (part < 0 || part >= PARTS) {
                return;
            }
            parts[part] += ways;
            upToTop += ways;
            while (topPart > 0 && upToTop - parts[topPart] > skip) {
                upToTop -= parts[topPart];
                topPart--;
            }
        }

        private void list() {
            if (listed) {
                return;
            }
            listed = true;
            size = 0;
            int wanted = Math.min(RANKED, ranks.all());
            if (wanted > 0) {
                lastSum = sumAt(wanted - 1);
                roomForLast = wanted - ranks.upTo(lastSum - 1);
                collect(this, 0, 0, 0, 0);
            }
        }

        /** Goes through the rows by their order, where the least sum ahead still belongs here. */
        private static void collect(Order order, int set, int worker, long soFar, int code) {
            if (worker >= order.grid.workers) {
                order.add(code, soFar);
                return;
            }
            for (int job = 0; job < order.grid.jobs; job++) {
                int then = set | 1 << job;
                long cost = order.grid.at(worker, job);
                if (then != set && cost != NEVER && order.ranks.many[then] > 0) {
                    long total = soFar + cost;
                    if (order.belongs(total + order.ranks.low[then])) {
                        collect(order, then, worker + 1, total, code * 8 + job);
                    }
                }
            }
        }

        private boolean belongs(long total) {
            return total < lastSum || total == lastSum && roomForLast > 0;
        }

        /* It goes behind those of like sum, which came ahead of it by their rows. */
        private void add(int code, long total) {
            if (size >= RANKED) {
                return;
            }
            int at = size;
            while (at > 0 && sums[at - 1] > total) {
                sums[at] = sums[at - 1];
                codes[at] = codes[at - 1];
                at--;
            }
            sums[at] = total;
            codes[at] = code;
            size++;
            if (total == lastSum) {
                roomForLast--;
            }
        }
    }

    /** The first assignment by a rule: the costs are narrowed or weighted till the sum decides. */
    private static final class Rules {
        private static final int BY_SUM = 0;
        private static final int BY_GREATEST = 1;
        private static final int BY_SPREAD = 2;
        /* More than any two sums can differ by: one cost above the limit outweighs all else. */
        private static final long WEIGHT = 1000000;

        private final Grid grid;
        private final Grid draft;
        private final Ranks supposed;
        private final long[] tops = new long[JOB_SETS];
        private final int[] chosen = new int[MOST_WORKERS];
        private final int[] tried = new int[MOST_WORKERS];
        private long bestSpread;
        private long bestSum;

        Rules(Grid grid, Grid draft, Ranks supposed) {
            this.grid = grid;
            this.draft = draft;
            this.supposed = supposed;
        }

        /** Lays out in chosen the first by the rule; false if there is none. */
        boolean choose(int rule, int limit) {
            switch (rule) {
                case BY_SUM:
                    draft.copy(grid);
                    break;
                case BY_GREATEST:
                    supposeWithin(-TOP_COST, lowestTop(-TOP_COST));
                    break;
                case BY_SPREAD:
                    return grid.workers == 0 || chooseEven();
                default:
                    supposeWeighted(limit);
                    break;
            }
            supposed.refresh();
            return supposed.findFirst(chosen);
        }

        long measure(int rule, int limit) {
            if (grid.workers == 0) {
                return 0;
            }
            switch (rule) {
                case BY_SUM:
                    return grid.sumOf(chosen);
                case BY_GREATEST:
                    return grid.greatestOf(chosen);
                case BY_SPREAD:
                    return grid.greatestOf(chosen) - grid.smallestOf(chosen);
                default:
                    return howManyAbove(limit);
            }
        }

        private long howManyAbove(int limit) {
            int above = 0;
            for (int worker = 0; worker < grid.workers; worker++) {
                if (grid.at(worker, chosen[worker]) > limit) {
                    above++;
                }
            }
            return above;
        }

        private void supposeWithin(long bottom, long top) {
            draft.copy(grid);
            for (int worker = 0; worker < grid.workers; worker++) {
                for (int job = 0; job < grid.jobs; job++) {
                    long cost = grid.at(worker, job);
                    if (cost < bottom || cost > top) {
                        draft.put(worker, job, NEVER);
                    }
                }
            }
        }

        private void supposeWeighted(int limit) {
            draft.copy(grid);
            for (int worker = 0; worker < grid.workers; worker++) {
                for (int job = 0; job < grid.jobs; job++) {
                    long cost = grid.at(worker, job);
                    if (cost != NEVER && cost > limit) {
                        draft.put(worker, job, cost + WEIGHT);
                    }
                }
            }
        }

        /* The least cost of the most even assignment is one of the grid's: each is tried as such. */
        private boolean chooseEven() {
            bestSpread = NEVER;
            bestSum = NEVER;
            for (int worker = 0; worker < grid.workers; worker++) {
                for (int job = 0; job < grid.jobs; job++) {
                    if (grid.at(worker, job) != NEVER) {
                        tryBottom(grid.at(worker, job));
                    }
                }
            }
            return bestSpread != NEVER;
        }

        private void tryBottom(long bottom) {
            long top = lowestTop(bottom);
            if (top == NEVER || top - bottom > bestSpread) {
                return;
            }
            supposeWithin(bottom, top);
            supposed.refresh();
            if (!supposed.findFirst(tried)) {
                return;
            }
            long total = grid.sumOf(tried);
            if (top - bottom < bestSpread || total < bestSum || total == bestSum && triedComesFirst()) {
                bestSpread = top - bottom;
                bestSum = total;
                for (int i = 0; i < grid.workers; i++) {
                    chosen[i] = tried[i];
                }
            }
        }

        private boolean triedComesFirst() {
            for (int worker = 0; worker < grid.workers; worker++) {
                if (tried[worker] != chosen[worker]) {
                    return tried[worker] < chosen[worker];
                }
            }
            return false;
        }

        /** The least that the greatest cost can be if none is below the bottom; NEVER: it can't. */
        private long lowestTop(long bottom) {
            for (int set = (1 << grid.jobs) - 1; set >= 0; set--) {
                int worker = Integer.bitCount(set);
                tops[set] = worker >= grid.workers ? bottom : NEVER;
                for (int job = 0; worker < grid.workers && job < grid.jobs; job++) {
                    long cost = grid.at(worker, job);
                    if ((set >> job & 1) == 0 && cost >= bottom) {
                        tops[set] = Math.min(tops[set], Math.max(cost, tops[set | 1 << job]));
                    }
                }
            }
            return tops[0];
        }
    }

    /** What greed takes, and how that is mended step by step. */
    private static final class Greed {
        /* Each step takes at least 1 off a sum that lies within 7 times -9999 .. 9999. */
        private static final int MOST_STEPS = 2 * MOST_WORKERS * TOP_COST;

        private final Grid grid;
        private final int[] jobOf = new int[MOST_WORKERS];
        private final int[] workerOf = new int[MOST_JOBS];
        private long total;
        private int placed;
        private int steps;
        private long bestGain;
        private int bestWorker;
        private int bestJob;

        Greed(Grid grid) {
            this.grid = grid;
        }

        void take() {
            for (int worker = 0; worker < MOST_WORKERS; worker++) {
                jobOf[worker] = NONE;
            }
            for (int job = 0; job < MOST_JOBS; job++) {
                workerOf[job] = NONE;
            }
            total = 0;
            placed = 0;
            while (placed < grid.workers && takeLeast()) {
                placed++;
            }
        }

        private boolean takeLeast() {
            long least = NEVER;
            int who = 0;
            int which = 0;
            for (int worker = 0; worker < grid.workers; worker++) {
                for (int job = 0; job < grid.jobs; job++) {
                    boolean free = jobOf[worker] == NONE && workerOf[job] == NONE;
                    if (free && grid.at(worker, job) < least) {
                        least = grid.at(worker, job);
                        who = worker;
                        which = job;
                    }
                }
            }
            if (least == NEVER) {
                return false;
            }
            seat(who, which);
            total += least;
            return true;
        }

        private void seat(int worker, int job) {
            if (grid.has(worker, job)) {
                jobOf[worker] = job;
                workerOf[job] = worker;
            }
        }

        /** Goes on from what take() left, which must have a job for each worker. */
        void mend() {
            steps = 0;
            while (placed == grid.workers && steps < MOST_STEPS && findStep()) {
                doStep();
                steps++;
            }
        }

        /* Goings are looked at ahead of changes, and only what is better displaces: so ties fall right. */
        private boolean findStep() {
            bestGain = 0;
            for (int worker = 0; worker < grid.workers; worker++) {
                for (int job = 0; job < grid.jobs; job++) {
                    if (workerOf[job] == NONE) {
                        weigh(worker, job, goingGain(worker, job));
                    }
                }
            }
            for (int worker = 0; worker < grid.workers; worker++) {
                for (int other = worker + 1; other < grid.workers; other++) {
                    weigh(worker, jobOf[other], changingGain(worker, other));
                }
            }
            return bestGain > 0;
        }

        /** By how much the sum gets less if a worker has another job; NO_SUCH if that can't be. */
        private long goingGain(int worker, int job) {
            long cost = grid.at(worker, job);
            return cost == NEVER ? NO_SUCH : grid.at(worker, jobOf[worker]) - cost;
        }

        private long changingGain(int worker, int other) {
            long gain = goingGain(worker, jobOf[other]);
            long otherGain = goingGain(other, jobOf[worker]);
            return gain == NO_SUCH || otherGain == NO_SUCH ? NO_SUCH : gain + otherGain;
        }

        private void weigh(int worker, int job, long gain) {
            if (gain > bestGain) {
                bestGain = gain;
                bestWorker = worker;
                bestJob = job;
            }
        }

        private void doStep() {
            int left = jobOf[bestWorker];
            int other = workerOf[bestJob];
            seat(bestWorker, bestJob);
            if (other != NONE) {
                seat(other, left);
            } else if (left != NONE) {
                workerOf[left] = NONE;
            }
            total -= bestGain;
        }
    }

    /** The auction, bid by bid. */
    private static final class Sale {
        private static final int MOST_BIDS = 500;
        private static final int ALONE = 1000;

        private final Grid grid;
        private final long[] prices = new long[MOST_JOBS];
        private final int[] jobOf = new int[MOST_WORKERS];
        private final int[] waiting = new int[MOST_WORKERS];
        private int waits;
        private int bids;

        Sale(Grid grid) {
            this.grid = grid;
        }

        void hold(int step) {
            open();
            while (bids < MOST_BIDS && waits > 0 && bid(waiting[0], step)) {
                bids++;
            }
        }

        private void open() {
            bids = 0;
            waits = grid.workers;
            for (int job = 0; job < MOST_JOBS; job++) {
                prices[job] = 0;
            }
            for (int worker = 0; worker < MOST_WORKERS; worker++) {
                jobOf[worker] = NONE;
                waiting[worker] = worker;
            }
        }

        private boolean bid(int worker, int step) {
            int wanted = leastNet(worker, NONE);
            if (wanted == NONE) {
                return false;
            }
            int second = leastNet(worker, wanted);
            long ahead = second == NONE ? ALONE : net(worker, second) - net(worker, wanted);
            prices[wanted] += ahead + step;
            leaveQueue();
            ousted(wanted);
            jobOf[worker] = wanted;
            return true;
        }

        private long net(int worker, int job) {
            return grid.at(worker, job) + prices[job];
        }

        /** The job of least net for a worker, one job aside; NONE if there is none. */
        private int leastNet(int worker, int aside) {
            int found = NONE;
            for (int job = 0; job < grid.jobs; job++) {
                boolean open = job != aside && grid.at(worker, job) != NEVER;
                if (open && (found == NONE || net(worker, job) < net(worker, found))) {
                    found = job;
                }
            }
            return found;
        }

        private void leaveQueue() {
            for (int i = 1; i < waits; i++) {
                waiting[i - 1] = waiting[i];
            }
            waits--;
        }

        private void ousted(int job) {
            for (int worker = 0; worker < grid.workers; worker++) {
                if (jobOf[worker] == job && waits < MOST_WORKERS) {
                    jobOf[worker] = NONE;
                    waiting[waits] = worker;
                    waits++;
                }
            }
        }

        long total() {
            long found = 0;
            for (int worker = 0; worker < grid.workers; worker++) {
                if (jobOf[worker] != NONE) {
                    found += grid.at(worker, jobOf[worker]);
                }
            }
            return found;
        }
    }

    /** The best ring or chain away from an assignment. */
    private static final class Moves {
        private final Grid grid;
        private final int[] jobOf = new int[MOST_WORKERS];
        private int taken;
        private long change;
        private int movers;

        Moves(Grid grid) {
            this.grid = grid;
        }

        boolean search(int[] row) {
            movers = 0;
            taken = 0;
            for (int worker = 0; worker < grid.workers && worker < row.length; worker++) {
                jobOf[worker] = row[worker];
                taken |= 1 << row[worker];
            }
            for (int worker = 0; worker < grid.workers; worker++) {
                extend(this, worker, worker, 1 << worker, 0);
            }
            return movers != 0;
        }

        /** Workers of the set move in a line; the last one's job is still to be found. */
        private static void extend(Moves moves, int lead, int last, int set, long soFar) {
            if (Integer.bitCount(set) > moves.grid.workers) {
                return;
            }
            if (lead != last) {
                moves.offer(set, soFar, moves.shift(last, moves.jobOf[lead]));
            }
            for (int job = 0; job < moves.grid.jobs; job++) {
                if ((moves.taken >> job & 1) == 0) {
                    moves.offer(set, soFar, moves.shift(last, job));
                }
            }
            for (int worker = 0; worker < moves.grid.workers; worker++) {
                if ((set >> worker & 1) == 0) {
                    long by = moves.shift(last, moves.jobOf[worker]);
                    if (by != NEVER) {
                        extend(moves, lead, worker, set | 1 << worker, soFar + by);
                    }
                }
            }
        }

        /** What the sum changes by if a worker has another job; NEVER if that can't be. */
        private long shift(int worker, int job) {
            long cost = grid.at(worker, job);
            return cost == NEVER ? NEVER : cost - grid.at(worker, jobOf[worker]);
        }

        private void offer(int set, long soFar, long by) {
            if (by == NEVER) {
                return;
            }
            long total = soFar + by;
            if (movers == 0 || total < change || total == change && comesBefore(set, movers)) {
                change = total;
                movers = set;
            }
        }

        private static boolean comesBefore(int set, int other) {
            int size = Integer.bitCount(set);
            int otherSize = Integer.bitCount(other);
            return size < otherSize || size == otherSize && set < other;
        }
    }

    /** The rings and chains that lead from one assignment to another. */
    private static final class Ways {
        private int rings;
        private int chains;
        private int longest;
        private int steps;
        private int seen;

        void trace(int[] from, int[] to, int workers) {
            rings = 0;
            chains = 0;
            longest = 0;
            steps = 0;
            seen = 0;
            int many = Math.min(workers, Math.min(from.length, to.length));
            for (int worker = 0; worker < many; worker++) {
                if (from[worker] != to[worker] && holder(to, from[worker], many) == NONE) {
                    int size = follow(worker, from, to, many);
                    chains++;
                    steps += size;
                }
            }
            // all chains are seen by now, so what else changed goes round
            for (int worker = 0; worker < many; worker++) {
                if (from[worker] != to[worker] && (seen >> worker & 1) == 0) {
                    int size = follow(worker, from, to, many);
                    rings++;
                    steps += size - 1;
                }
            }
        }

        private int follow(int start, int[] from, int[] to, int many) {
            int size = 0;
            int worker = start;
            while (worker != NONE && (seen >> worker & 1) == 0 && size < many) {
                seen |= 1 << worker;
                size++;
                worker = holder(from, to[worker], many);
            }
            longest = Math.max(longest, size);
            return size;
        }

        private static int holder(int[] row, int job, int many) {
            for (int worker = 0; worker < many && worker < row.length; worker++) {
                if (row[worker] == job) {
                    return worker;
                }
            }
            return NONE;
        }
    }
}
