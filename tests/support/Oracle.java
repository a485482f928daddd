import java.util.ArrayDeque;
import java.util.ArrayList;
import java.util.Arrays;
import java.util.Collections;
import java.util.Comparator;
import java.util.Deque;
import java.util.HashSet;
import java.util.LinkedHashSet;
import java.util.List;
import java.util.Set;
import java.util.function.Predicate;
import java.util.regex.Matcher;
import java.util.regex.Pattern;

/**
 * The document's words once more, in the dullest way there is: all assignments are laid out and
 * sorted, and every answer is looked up among them. Shares no way of thinking with the class.
 */
public final class Oracle {
    private static final long NO = Long.MIN_VALUE;
    private static final long NEVER = Long.MAX_VALUE;
    private static final Pattern GRAMMAR = Pattern.compile("(JN;(W(X|-?N)(,(X|-?N))*;)*)?");

    private List<List<Long>> rows = new ArrayList<>();
    private int jobs;
    private final Deque<Object[]> past = new ArrayDeque<>();
    private String tape = "";
    private int fault;
    private int faultPlace = -1;
    private List<int[]> sorted;

    // ---- the tape

    public int feed(int... numbers) {
        if (tape.length() + 20 > 600) {
            return -1;
        }
        StringBuilder more = new StringBuilder(tape);
        for (int number : numbers) {
            for (int i = 3; i >= 0; i--) {
                more.append((char) (number >>> 8 * i & 255));
            }
        }
        tape = more.toString();
        return tape.length();
    }

    public int end(int n) {
        if (n < 0 || n > tape.length()) {
            return -1;
        }
        tape = tape.substring(0, n);
        return n;
    }

    public int table() {
        String text = tape;
        tape = "";
        List<String> tokens = new ArrayList<>();
        List<Integer> places = new ArrayList<>();
        Matcher cut = Pattern.compile("[a-z]+|[0-9]+|[^ \n]", Pattern.DOTALL).matcher(text);
        while (cut.find()) {
            tokens.add(cut.group());
            places.add(cut.start());
        }
        places.add(text.length());
        int[] first = firstFault(tokens, places);
        fault = first == null ? 0 : first[1];
        faultPlace = first == null ? -1 : first[0];
        if (first != null) {
            return -4;
        }
        rows = new ArrayList<>();
        jobs = 0;
        boolean minus = false;
        for (int i = 0; i < tokens.size(); i++) {
            String token = tokens.get(i);
            if (token.equals("worker")) {
                rows.add(new ArrayList<>());
            } else if (token.equals("x")) {
                last().add(NEVER);
            } else if (Character.isDigit(token.charAt(0))) {
                long v = new java.math.BigInteger(token).longValue();
                if (i == 1) {
                    jobs = (int) v;
                } else {
                    last().add(minus ? -v : v);
                }
            }
            minus = token.equals("-");
        }
        past.clear();
        sorted = null;
        return rows.size();
    }

    private List<Long> last() {
        return rows.get(rows.size() - 1);
    }

    private static int[] firstFault(List<String> tokens, List<Integer> places) {
        List<int[]> faults = new ArrayList<>();
        StringBuilder kinds = new StringBuilder();
        int misplaced = -1;
        for (int i = 0; i < tokens.size() && misplaced < 0; i++) {
            kinds.append(kind(tokens.get(i)));
            Matcher m = GRAMMAR.matcher(kinds);
            if (!m.matches() && !m.hitEnd()) {
                misplaced = i;
            }
        }
        if (misplaced < 0 && !GRAMMAR.matcher(kinds).matches()) {
            misplaced = tokens.size();
        }
        int upTo = misplaced < 0 ? tokens.size() : misplaced;
        if (misplaced >= 0) {
            faults.add(new int[] {places.get(misplaced), 1});
        }
        int m = 0;
        int workers = 0;
        int costs = 0;
        for (int i = 0; i < upTo; i++) {
            char kind = kind(tokens.get(i));
            boolean startsCost = kind == 'X' || kind == '-' || kind == 'N' && kind(tokens.get(i - 1)) != '-';
            if (i == 1) {
                m = (int) Math.min(100, Long.parseLong(clip(tokens.get(i))));
                if (m < 1 || m > 8) {
                    faults.add(new int[] {places.get(i), 2});
                }
                continue;
            }
            if (kind == 'N' && Long.parseLong(clip(tokens.get(i))) > 9999) {
                faults.add(new int[] {places.get(i), 2});
            }
            if (kind == 'W') {
                workers++;
                costs = 0;
                if (workers == 8) {
                    faults.add(new int[] {places.get(i), 3});
                }
            }
            if (startsCost) {
                costs++;
                if (costs > m) {
                    faults.add(new int[] {places.get(i), 3});
                }
            }
            if (kind == ';' && workers > 0 && costs < m) {
                faults.add(new int[] {places.get(i), 4});
            }
        }
        faults.sort(Comparator.<int[]>comparingInt(f -> f[0]).thenComparingInt(f -> f[1]));
        return faults.isEmpty() ? null : faults.get(0);
    }

    private static String clip(String digits) {
        String bare = digits.replaceFirst("^0+(?=.)", "");
        return bare.length() > 9 ? "999999999" : bare;
    }

    private static char kind(String token) {
        switch (token) {
            case "jobs": return 'J';
            case "worker": return 'W';
            case "x": return 'X';
            case ";": case ",": case "-": return token.charAt(0);
            default: return token.matches("[0-9]+") ? 'N' : '?';
        }
    }

    public int fault(int what) {
        return what == 0 ? fault : what == 1 ? faultPlace : -1;
    }

    // ---- what there is

    private int workers() {
        return rows.size();
    }

    private boolean has(int w, int j) {
        return w >= 0 && w < workers() && j >= 0 && j < jobs;
    }

    public long cost(int w, int j) {
        return has(w, j) ? rows.get(w).get(j) : NO;
    }

    private List<int[]> all() {
        if (sorted == null) {
            sorted = new ArrayList<>();
            lay(new int[workers()], 0);
            sorted.sort(Comparator.<int[]>comparingLong(this::sumOf).thenComparing(Arrays::compare));
        }
        return sorted;
    }

    private void lay(int[] row, int w) {
        if (w == row.length) {
            sorted.add(row.clone());
            return;
        }
        for (int j = 0; j < jobs; j++) {
            boolean free = rows.get(w).get(j) != NEVER;
            for (int u = 0; u < w; u++) {
                free &= row[u] != j;
            }
            if (free) {
                row[w] = j;
                lay(row, w + 1);
            }
        }
    }

    private long sumOf(int[] row) {
        long sum = 0;
        for (int w = 0; w < row.length; w++) {
            sum += rows.get(w).get(row[w]);
        }
        return sum;
    }

    private long leastWhere(Predicate<int[]> fits) {
        return all().stream().filter(fits).mapToLong(this::sumOf).min().orElse(NO);
    }

    /** Another world: the same jobs and costs, one of them changed, or a worker left out. */
    private Oracle other() {
        Oracle o = new Oracle();
        o.jobs = jobs;
        for (List<Long> row : rows) {
            o.rows.add(new ArrayList<>(row));
        }
        return o;
    }

    public int count(int what) {
        switch (what) {
            case 0: return workers();
            case 1: return jobs;
            case 2: return (int) rows.stream().flatMap(List::stream).filter(c -> c == NEVER).count();
            case 3: return all().size();
            case 4: return past.size();
            case 5: return tape.length();
            default: return -1;
        }
    }

    private boolean rank(int k) {
        return k >= 0 && k <= 199;
    }

    private boolean there(int k) {
        return rank(k) && k < all().size();
    }

    public long sum(int k) {
        return there(k) ? sumOf(all().get(k)) : NO;
    }

    public int job(int k, int w) {
        if (!rank(k) || w < 0 || w >= workers()) {
            return -2;
        }
        return there(k) ? all().get(k)[w] : -1;
    }

    public int ties(int k) {
        if (!rank(k)) {
            return -2;
        }
        return there(k) ? (int) all().stream().filter(r -> sumOf(r) == sum(k)).count() : -1;
    }

    public int under(long most) {
        return (int) all().stream().filter(r -> sumOf(r) <= most).count();
    }

    private static int toldAs(int[] row) {
        int told = 0;
        for (int j : row) {
            told = told * 8 + j;
        }
        return told;
    }

    public int place(int told) {
        for (int i = 0; i < all().size(); i++) {
            if (toldAs(all().get(i)) == told) {
                return i;
            }
        }
        return -1;
    }

    public long forced(int w, int j) {
        return has(w, j) ? leastWhere(r -> r[w] == j) : NO;
    }

    public long without(int w, int j) {
        return has(w, j) ? leastWhere(r -> r[w] != j) : NO;
    }

    /** By its meaning: would the first one of now still be of least sum with this cost? */
    private boolean staysFirst(int w, int j, long v) {
        Oracle o = other();
        int[] now = all().get(0);
        o.rows.get(w).set(j, v);
        return o.sumOf(now) == o.leastWhere(r -> true);
    }

    public long stays(int w, int j, int what) {
        if (!has(w, j) || all().isEmpty() || cost(w, j) == NEVER || what < 0 || what > 1) {
            return NO;
        }
        long far = 1L << 20;
        int way = what == 0 ? -1 : 1;
        long fits = cost(w, j);
        if (staysFirst(w, j, fits + way * far)) {
            return NO;
        }
        for (long jump = far; jump >= 1; jump /= 2) {
            if (staysFirst(w, j, fits + way * jump)) {
                fits += way * jump;
            }
        }
        return fits;
    }

    public long would(int w, int j, int v) {
        if (!has(w, j) || v < -9999 || v > 9999) {
            return NO;
        }
        Oracle o = other();
        o.rows.get(w).set(j, (long) v);
        return o.leastWhere(r -> true);
    }

    public int ever(int w) {
        if (w < 0 || w >= workers()) {
            return -2;
        }
        int bits = 0;
        for (int[] r : all()) {
            bits |= sumOf(r) == sum(0) ? 1 << r[w] : 0;
        }
        return bits;
    }

    private static boolean uses(int[] row, int job) {
        return Arrays.stream(row).anyMatch(j -> j == job);
    }

    public long price(int job) {
        if (job < 0 || job >= jobs || all().isEmpty()) {
            return NO;
        }
        long then = leastWhere(r -> !uses(r, job));
        return then == NO ? NO : then - sum(0);
    }

    public long pay(int w) {
        if (w < 0 || w >= workers() || all().isEmpty()) {
            return NO;
        }
        Oracle o = other();
        o.rows.remove(w);
        int had = all().get(0)[w];
        return o.leastWhere(r -> !uses(r, had)) - o.leastWhere(r -> true);
    }

    // ---- rules

    private long measure(int rule, int limit, int[] row) {
        if (row.length == 0) {
            return 0;
        }
        long top = NO;
        long bottom = NEVER;
        long above = 0;
        for (int w = 0; w < row.length; w++) {
            long c = cost(w, row[w]);
            top = Math.max(top, c);
            bottom = Math.min(bottom, c);
            above += c > limit ? 1 : 0;
        }
        return rule == 0 ? sumOf(row) : rule == 1 ? top : rule == 2 ? top - bottom : above;
    }

    private int[] firstBy(int rule, int limit) {
        return Collections.min(all(), Comparator.<int[]>comparingLong(r -> measure(rule, limit, r))
                .thenComparingLong(this::sumOf).thenComparing(Arrays::compare));
    }

    public long first(int rule, int limit, int what) {
        if (rule < 0 || rule > 3 || what < 0 || what > 1 || all().isEmpty()) {
            return NO;
        }
        int[] row = firstBy(rule, limit);
        return what == 0 ? measure(rule, limit, row) : sumOf(row);
    }

    public int firstJob(int rule, int limit, int w) {
        if (rule < 0 || rule > 3 || w < 0 || w >= workers()) {
            return -2;
        }
        return all().isEmpty() ? -1 : firstBy(rule, limit)[w];
    }

    // ---- greed and mending

    private int[] greedyRow() {
        List<long[]> cells = new ArrayList<>();
        for (int w = 0; w < workers(); w++) {
            for (int j = 0; j < jobs; j++) {
                if (cost(w, j) != NEVER) {
                    cells.add(new long[] {cost(w, j), w, j});
                }
            }
        }
        cells.sort(Arrays::compare);
        int[] row = new int[workers()];
        Arrays.fill(row, -1);
        for (long[] cell : cells) {
            if (row[(int) cell[1]] == -1 && !uses(row, (int) cell[2])) {
                row[(int) cell[1]] = (int) cell[2];
            }
        }
        return row;
    }

    public long greedy(int what) {
        int[] row = greedyRow();
        long sum = 0;
        long placed = 0;
        for (int w = 0; w < row.length; w++) {
            if (row[w] >= 0) {
                sum += cost(w, row[w]);
                placed++;
            }
        }
        return what == 0 ? sum : what == 1 ? placed : NO;
    }

    public int greedyJob(int w) {
        return w < 0 || w >= workers() ? -2 : greedyRow()[w];
    }

    public long mended(int what) {
        int[] row = greedyRow();
        if (what < 0 || what > 1 || uses(row, -1)) {
            return NO;
        }
        for (long steps = 0; ; steps++) {
            // candidates as {sum, kind, first, second}, so that the least by these is the step
            List<long[]> steps2 = new ArrayList<>();
            List<int[]> then = new ArrayList<>();
            for (int a = 0; a < row.length; a++) {
                for (int b = 0; b < Math.max(jobs, row.length); b++) {
                    if (b < jobs && !uses(row, b)) {
                        propose(row, new int[] {a, b}, 0, steps2, then);
                    }
                    if (b > a && b < row.length) {
                        propose(row, new int[] {a, b}, 1, steps2, then);
                    }
                }
            }
            int best = -1;
            for (int i = 0; i < steps2.size(); i++) {
                if (steps2.get(i)[0] < sumOf(row) && (best < 0 || Arrays.compare(steps2.get(i), steps2.get(best)) < 0)) {
                    best = i;
                }
            }
            if (best < 0) {
                return what == 0 ? sumOf(row) : steps;
            }
            row = then.get(best);
        }
    }

    private void propose(int[] row, int[] ab, int kind, List<long[]> keys, List<int[]> then) {
        int[] next = row.clone();
        if (kind == 0) {
            next[ab[0]] = ab[1];
        } else {
            next[ab[0]] = row[ab[1]];
            next[ab[1]] = row[ab[0]];
        }
        for (int w = 0; w < next.length; w++) {
            if (cost(w, next[w]) == NEVER) {
                return;
            }
        }
        keys.add(new long[] {sumOf(next), kind, ab[0], ab[1]});
        then.add(next);
    }

    // ---- the auction

    private long[] auctionPrices;
    private int[] auctionJobs;
    private int auctionBids;

    private void hold(int step) {
        auctionPrices = new long[jobs];
        auctionJobs = new int[workers()];
        Arrays.fill(auctionJobs, -1);
        auctionBids = 0;
        Deque<Integer> queue = new ArrayDeque<>();
        for (int w = 0; w < workers(); w++) {
            queue.addLast(w);
        }
        while (!queue.isEmpty() && auctionBids < 500) {
            int w = queue.peekFirst();
            List<long[]> nets = new ArrayList<>();
            for (int j = 0; j < jobs; j++) {
                if (cost(w, j) != NEVER) {
                    nets.add(new long[] {cost(w, j) + auctionPrices[j], j});
                }
            }
            if (nets.isEmpty()) {
                break;
            }
            nets.sort(Arrays::compare);
            int j = (int) nets.get(0)[1];
            auctionPrices[j] += step + (nets.size() == 1 ? 1000 : nets.get(1)[0] - nets.get(0)[0]);
            queue.removeFirst();
            for (int u = 0; u < workers(); u++) {
                if (auctionJobs[u] == j) {
                    auctionJobs[u] = -1;
                    queue.addLast(u);
                }
            }
            auctionJobs[w] = j;
            auctionBids++;
        }
    }

    private boolean step(int step) {
        return step >= 1 && step <= 99;
    }

    public long auction(int step, int what) {
        if (!step(step) || what < 0 || what > 2) {
            return NO;
        }
        hold(step);
        long sum = 0;
        for (int w = 0; w < workers(); w++) {
            sum += auctionJobs[w] < 0 ? 0 : cost(w, auctionJobs[w]);
        }
        return what == 0 ? auctionBids : what == 1 ? (uses(auctionJobs, -1) ? 0 : 1) : sum;
    }

    public int auctionPrice(int step, int job) {
        if (!step(step) || job < 0 || job >= jobs) {
            return -2;
        }
        hold(step);
        return (int) auctionPrices[job];
    }

    public int auctionJob(int step, int w) {
        if (!step(step) || w < 0 || w >= workers()) {
            return -2;
        }
        hold(step);
        return auctionJobs[w];
    }

    // ---- the rest of the questions

    public int drawn(long seed) {
        java.math.BigInteger two64 = java.math.BigInteger.ONE.shiftLeft(64);
        java.math.BigInteger x = java.math.BigInteger.valueOf(seed)
                .multiply(new java.math.BigInteger("6364136223846793005"))
                .add(new java.math.BigInteger("1442695040888963407")).mod(two64).shiftRight(33);
        return all().isEmpty() ? -1 : x.mod(java.math.BigInteger.valueOf(all().size())).intValue();
    }

    public long least(int one, int what) {
        if (what < 0 || what > 1) {
            return NO;
        }
        long found = NEVER;
        for (int w = 0; w < workers(); w++) {
            for (int j = 0; j < jobs; j++) {
                if ((what == 0 ? w : j) == one) {
                    found = Math.min(found, cost(w, j));
                }
            }
        }
        return found == NEVER ? NO : found;
    }

    public long loss(int k) {
        if (!there(k)) {
            return NO;
        }
        long loss = sum(k);
        for (List<Long> row : rows) {
            loss -= Collections.min(row);
        }
        return loss;
    }

    public long dearest(int k) {
        return there(k) && workers() > 0 ? measure(1, 0, all().get(k)) : NO;
    }

    public int apart(int k, int l) {
        if (!rank(k) || !rank(l)) {
            return -2;
        }
        if (!there(k) || !there(l)) {
            return -1;
        }
        int n = 0;
        for (int w = 0; w < workers(); w++) {
            n += job(k, w) != job(l, w) ? 1 : 0;
        }
        return n;
    }

    /** Groups of workers tied together by jobs that pass among them; {ring or not, bits}. */
    private static List<int[]> groups(int[] from, int[] to) {
        List<int[]> found = new ArrayList<>();
        Set<Integer> left = new LinkedHashSet<>();
        for (int w = 0; w < from.length; w++) {
            if (from[w] != to[w]) {
                left.add(w);
            }
        }
        while (!left.isEmpty()) {
            Set<Integer> group = new HashSet<>();
            group.add(left.iterator().next());
            for (boolean grew = true; grew; ) {
                grew = false;
                for (int w : new ArrayList<>(left)) {
                    for (int u : new ArrayList<>(group)) {
                        if (to[w] == from[u] || to[u] == from[w]) {
                            grew |= group.add(w);
                        }
                    }
                }
            }
            left.removeAll(group);
            boolean ring = true;
            int bits = 0;
            for (int w : group) {
                bits |= 1 << w;
                ring &= uses(from, to[w]);
            }
            found.add(new int[] {ring ? 1 : 0, bits});
        }
        return found;
    }

    public int rounds(int k, int l, int what) {
        if (!rank(k) || !rank(l) || what < 0 || what > 3) {
            return -2;
        }
        if (!there(k) || !there(l)) {
            return -1;
        }
        int rings = 0;
        int chains = 0;
        int longest = 0;
        int together = 0;
        for (int[] group : groups(all().get(k), all().get(l))) {
            int size = Integer.bitCount(group[1]);
            rings += group[0];
            chains += 1 - group[0];
            longest = Math.max(longest, size);
            together += size - group[0];
        }
        return new int[] {rings, chains, longest, together}[what];
    }

    public int often(int w, int j, int n) {
        if (!has(w, j) || n < 1 || n > 200) {
            return -2;
        }
        return (int) all().stream().limit(n).filter(r -> r[w] == j).count();
    }

    public long only(int set) {
        if (set < 0 || set >= 1 << jobs) {
            return NO;
        }
        return leastWhere(r -> Arrays.stream(r).allMatch(j -> (set >> j & 1) == 1));
    }

    public int blocked() {
        for (int set = 1; set < 1 << workers(); set++) {
            Set<Integer> open = new HashSet<>();
            for (int w = 0; w < workers(); w++) {
                for (int j = 0; j < jobs; j++) {
                    if ((set >> w & 1) == 1 && cost(w, j) != NEVER) {
                        open.add(j);
                    }
                }
            }
            if (open.size() < Integer.bitCount(set)) {
                return set;
            }
        }
        return 0;
    }

    public long move(int told, int what) {
        int at = place(told);
        if (at < 0 || what < 0 || what > 2) {
            return NO;
        }
        int[] row = all().get(at);
        long[] best = null;
        for (int[] then : all()) {
            List<int[]> groups = groups(row, then);
            if (groups.size() == 1) {
                int set = groups.get(0)[1];
                long[] key = {sumOf(then) - sumOf(row), Integer.bitCount(set), set};
                best = best == null || Arrays.compare(key, best) < 0 ? key : best;
            }
        }
        return best == null ? NO : best[what];
    }

    public long middle() {
        return all().isEmpty() ? NO : sumOf(all().get((all().size() - 1) / 2));
    }

    private Long[][] reducedAll() {
        Long[][] r = new Long[workers()][jobs];
        for (int w = 0; w < workers(); w++) {
            for (int j = 0; j < jobs; j++) {
                r[w][j] = cost(w, j) == NEVER ? null : cost(w, j) - least(w, 0);
            }
        }
        for (int j = 0; j < jobs; j++) {
            long least = NEVER;
            for (Long[] row : r) {
                least = row[j] == null ? least : Math.min(least, row[j]);
            }
            for (Long[] row : r) {
                row[j] = row[j] == null ? null : row[j] - least;
            }
        }
        return r;
    }

    public long reduced(int w, int j) {
        if (!has(w, j)) {
            return NO;
        }
        Long r = reducedAll()[w][j];
        return r == null ? NEVER : r;
    }

    public int noughts() {
        return (int) Arrays.stream(reducedAll()).flatMap(Arrays::stream).filter(r -> r != null && r == 0).count();
    }

    // ---- acts

    /** Has the past before an act, and drops it again if the act changed nothing. */
    private boolean acted(List<List<Long>> before, int jobsBefore) {
        sorted = null;
        if (before.equals(rows) && jobsBefore == jobs) {
            return false;
        }
        past.addLast(new Object[] {before, jobsBefore});
        if (past.size() > 10) {
            past.removeFirst();
        }
        return true;
    }

    public int sets(int w, int j, int v) {
        if (!has(w, j) || v < -9999 || v > 9999) {
            return -2;
        }
        List<List<Long>> before = other().rows;
        rows.get(w).set(j, (long) v);
        return acted(before, jobs) ? 1 : 0;
    }

    public int bars(int w, int j) {
        if (!has(w, j)) {
            return -2;
        }
        List<List<Long>> before = other().rows;
        rows.get(w).set(j, NEVER);
        return acted(before, jobs) ? 1 : 0;
    }

    private boolean line(int one, int what) {
        return what == 0 && one >= 0 && one < workers() || what == 1 && one >= 0 && one < jobs;
    }

    public int tilts(int one, int v, int what) {
        if (!line(one, what)) {
            return -2;
        }
        List<List<Long>> before = other().rows;
        int hit = 0;
        boolean out = false;
        for (int w = 0; w < workers(); w++) {
            for (int j = 0; j < jobs; j++) {
                if ((what == 0 ? w : j) == one && cost(w, j) != NEVER) {
                    hit++;
                    rows.get(w).set(j, cost(w, j) + v);
                    out |= Math.abs(cost(w, j)) > 9999;
                }
            }
        }
        if (out) {
            rows = before;
            return -5;
        }
        acted(before, jobs);
        return hit;
    }

    public int comes(int what, int v) {
        if (what < 0 || what > 1 || v < -9999 || v > 9999) {
            return -2;
        }
        if (what == 0 ? workers() == 7 : jobs == 8) {
            return -5;
        }
        List<List<Long>> before = other().rows;
        int jobsBefore = jobs;
        if (what == 0) {
            rows.add(new ArrayList<>(Collections.nCopies(jobs, (long) v)));
        } else {
            jobs++;
            rows.forEach(row -> row.add((long) v));
        }
        acted(before, jobsBefore);
        return what == 0 ? workers() - 1 : jobs - 1;
    }

    public int goes(int one, int what) {
        if (!line(one, what)) {
            return -2;
        }
        List<List<Long>> before = other().rows;
        int jobsBefore = jobs;
        if (what == 0) {
            rows.remove(one);
        } else {
            jobs--;
            rows.forEach(row -> row.remove(one));
        }
        acted(before, jobsBefore);
        return what == 0 ? workers() : jobs;
    }

    public int turn(int w, int u) {
        if (!line(w, 0) || !line(u, 0)) {
            return -2;
        }
        List<List<Long>> before = other().rows;
        Collections.swap(rows, w, u);
        return acted(before, jobs) ? 1 : 0;
    }

    @SuppressWarnings("unchecked")
    public int undo() {
        if (past.isEmpty()) {
            return -1;
        }
        Object[] before = past.removeLast();
        rows = (List<List<Long>>) before[0];
        jobs = (Integer) before[1];
        sorted = null;
        return past.size();
    }
}
