import java.util.Random;

/** Long mixed runs of calls on new objects, each answer compared with the oracle's. */
public final class RandomRunsTest {
    private static final Check CHECK = new Check("RandomRunsTest");
    private static Random random;
    private static NextBest x;
    private static Oracle o;
    private static String trail;
    /* An object takes 512 calls; one round of a run makes at most so many. */
    private static final int MOST_CALLS = 512;
    private static final int MOST_IN_ROUND = 212;
    private static int calls;

    public static void main(String[] args) {
        int runs = args.length > 0 ? Integer.parseInt(args[0]) : 1500;
        int from = args.length > 1 ? Integer.parseInt(args[1]) : 0;
        for (int run = from; run < from + runs && CHECK.wrong() == 0; run++) {
            random = new Random(run * 7919L + 17);
            x = new NextBest();
            o = new Oracle();
            calls = 0;
            trail = "run " + run + ": ";
            oneRun(run);
        }
        for (int one = from; one < from + 3 * runs && CHECK.wrong() == 0; one++) {
            random = new Random(one * 104729L + 5);
            x = new NextBest();
            o = new Oracle();
            calls = 0;
            trail = "table " + one + ": ";
            oneTable();
        }
        CHECK.finish();
    }

    /** A table on which all is asked that depends on choices among like ones. */
    private static void oneTable() {
        int workers = 2 + random.nextInt(4);
        tell(text(workers, Math.min(8, workers + random.nextInt(3))));
        for (int what = 0; what < 3; what++) {
            due("mended(" + what + ")", x.mended(what), o.mended(what));
            due("greedy(" + what + ")", x.greedy(what), o.greedy(what));
            int told = told();
            due("move(" + told + "," + what + ")", x.move(told, what), o.move(told, what));
        }
        for (int rule = 1; rule < 4; rule++) {
            int limit = value();
            due("first(" + rule + "," + limit + ")", x.first(rule, limit, 0), o.first(rule, limit, 0));
            due("first(" + rule + "," + limit + ")", x.first(rule, limit, 1), o.first(rule, limit, 1));
            for (int w = 0; w < workers; w++) {
                due("firstJob(" + rule + "," + limit + "," + w + ")", x.firstJob(rule, limit, w), o.firstJob(rule, limit, w));
                due("auctionJob(" + rule + "," + w + ")", x.auctionJob(rule, w), o.auctionJob(rule, w));
            }
        }
    }

    private static void oneRun(int run) {
        // the whole of 7 and 8 is dear to lay out, so few runs go there
        boolean big = run % 40 == 0;
        int workers = big ? 6 + random.nextInt(2) : random.nextInt(5);
        int jobs = big ? 7 + random.nextInt(2) : Math.max(1, Math.min(8, workers - 1 + random.nextInt(4)));
        tell(text(workers, jobs));
        int rounds = big ? 60 : 250;
        for (int i = 0; i < rounds && calls + MOST_IN_ROUND <= MOST_CALLS && CHECK.wrong() == 0; i++) {
            if (random.nextInt(big ? 20 : 5) == 0) {
                act();
            } else {
                ask(random.nextInt(38));
            }
            if (random.nextInt(big ? 200 : 60) == 0) {
                tell(random.nextInt(3) == 0 ? text(random.nextInt(5), 1 + random.nextInt(6)) : spoiled(text(random.nextInt(9), 1 + random.nextInt(4))));
            }
            if (random.nextInt(80) == 0) {
                tapeOnly();
            }
        }
    }

    /** Each call on the object is looked at here, so here they are counted. */
    private static void due(String call, long got, long want) {
        calls++;
        if (calls > MOST_CALLS) {
            CHECK.due(trail + "calls of one object", calls, MOST_CALLS);
        }
        CHECK.due(trail + call, got, want);
        if (got != want) {
            describe();
        }
    }

    private static void describe() {
        StringBuilder s = new StringBuilder("  table: ");
        for (int w = 0; w < o.count(0); w++) {
            s.append('[');
            for (int j = 0; j < o.count(1); j++) {
                s.append(o.cost(w, j) == Long.MAX_VALUE ? "x" : "" + o.cost(w, j)).append(' ');
            }
            s.append("] ");
        }
        System.out.println(s);
    }

    // ---- texts

    private static String text(int workers, int jobs) {
        int span = new int[] {2, 4, 10, 100, 9999}[random.nextInt(5)];
        int never = new int[] {0, 0, 10, 25, 50}[random.nextInt(5)];
        StringBuilder s = new StringBuilder("jobs").append(gap()).append(jobs).append(gap()).append(';');
        for (int w = 0; w < workers; w++) {
            s.append(gap()).append("worker").append(gap());
            for (int j = 0; j < jobs; j++) {
                s.append(j > 0 ? "," : "").append(gap());
                if (random.nextInt(100) < never) {
                    s.append('x');
                } else {
                    s.append(random.nextInt(3) == 0 ? "-" + gap() : "").append(random.nextInt(span + 1));
                }
                s.append(gap());
            }
            s.append(';');
        }
        return s.append(gap()).toString();
    }

    private static String gap() {
        int n = random.nextInt(12);
        return n == 0 ? "\n" : n < 3 ? " " : "";
    }

    private static String spoiled(String text) {
        String[] bits = {"", ";", ",", "-", "x", "jobs", "worker", " ", "7", "0", "12345", "99999", "10000", "A", "\t", "xx", ".", "\0", "\u00ff", "worker 1;"};
        StringBuilder s = new StringBuilder(text);
        for (int n = random.nextInt(3); n >= 0; n--) {
            int at = random.nextInt(s.length() + 1);
            int to = Math.min(s.length(), at + random.nextInt(3));
            s.replace(at, to, bits[random.nextInt(bits.length)]);
        }
        return s.toString();
    }

    private static void tell(String text) {
        if (text.length() > 580) {
            return;
        }
        due("end(0)", x.end(0), o.end(0));
        for (int i = 0; i < text.length(); i += 20) {
            int[] n = Check.numbers(text, i);
            due("feed", x.feed(n[0], n[1], n[2], n[3], n[4]), o.feed(n));
        }
        due("end", x.end(text.length()), o.end(text.length()));
        due("count(5)", x.count(5), o.count(5));
        due("table of '" + text + "'", x.table(), o.table());
        for (int what = -1; what <= 2; what++) {
            due("fault(" + what + ") of '" + text + "'", x.fault(what), o.fault(what));
        }
        due("count(5)", x.count(5), 0);
        everything();
    }

    private static void tapeOnly() {
        for (int i = 0; i < 31; i++) {
            int n = random.nextInt();
            due("feed", x.feed(n, n, n, n, n), o.feed(n, n, n, n, n));
        }
        int n = random.nextInt(640) - 20;
        due("end(" + n + ")", x.end(n), o.end(n));
        due("count(5)", x.count(5), o.count(5));
    }

    private static void everything() {
        for (int what = -1; what <= 6; what++) {
            due("count(" + what + ")", x.count(what), o.count(what));
        }
        for (int w = 0; w < o.count(0); w++) {
            for (int j = 0; j < o.count(1); j++) {
                due("cost(" + w + "," + j + ")", x.cost(w, j), o.cost(w, j));
            }
        }
    }

    // ---- numbers as arguments, now and then out of their bounds

    private static int near(int most) {
        if (random.nextInt(25) == 0) {
            return new int[] {-1, most, Integer.MIN_VALUE, Integer.MAX_VALUE, most + 1, -2}[random.nextInt(6)];
        }
        return most <= 0 ? 0 : random.nextInt(most);
    }

    private static int worker() {
        return near(o.count(0));
    }

    private static int job() {
        return near(o.count(1));
    }

    private static int rank() {
        int all = Math.min(200, o.count(3));
        return random.nextInt(6) == 0 ? near(200) : near(all);
    }

    private static int value() {
        int n = random.nextInt(30);
        if (n == 0) {
            return new int[] {10000, -10000, Integer.MIN_VALUE, Integer.MAX_VALUE}[random.nextInt(4)];
        }
        return n < 4 ? random.nextInt(19999) - 9999 : random.nextInt(12) - 3;
    }

    private static int told() {
        if (random.nextInt(4) == 0 || o.count(3) == 0) {
            return near(1 << 3 * o.count(0));
        }
        int k = random.nextInt(Math.min(200, o.count(3)));
        int told = 0;
        for (int w = 0; w < o.count(0); w++) {
            told = told * 8 + o.job(k, w);
        }
        return random.nextInt(30) == 0 ? told + (1 << 3 * o.count(0)) : told;
    }

    // ---- calls

    private static void act() {
        int a = 0;
        int b = 0;
        int c = 0;
        switch (random.nextInt(9)) {
            case 0: case 1:
                a = worker(); b = job(); c = value();
                due("sets(" + a + "," + b + "," + c + ")", x.sets(a, b, c), o.sets(a, b, c));
                break;
            case 2:
                a = worker(); b = job();
                due("bars(" + a + "," + b + ")", x.bars(a, b), o.bars(a, b));
                break;
            case 3:
                a = near(4); b = value(); c = near(2);
                due("tilts(" + a + "," + b + "," + c + ")", x.tilts(a, b, c), o.tilts(a, b, c));
                break;
            case 4:
                a = near(2); b = value();
                // the whole of large tables would take the oracle too long to lay out again and again
                if (o.count(0) + o.count(1) < 10 || random.nextInt(10) == 0) {
                    due("comes(" + a + "," + b + ")", x.comes(a, b), o.comes(a, b));
                }
                break;
            case 5:
                a = near(4); b = near(2);
                due("goes(" + a + "," + b + ")", x.goes(a, b), o.goes(a, b));
                break;
            case 6:
                a = worker(); b = worker();
                due("turn(" + a + "," + b + ")", x.turn(a, b), o.turn(a, b));
                break;
            default:
                for (int n = random.nextInt(20) == 0 ? 12 : 1; n > 0; n--) {
                    due("undo()", x.undo(), o.undo());
                }
                break;
        }
        everything();
    }

    private static void ask(int which) {
        int w = worker();
        int j = job();
        int k = rank();
        int l = rank();
        int v = value();
        int what = near(3);
        int rule = near(4);
        int step = random.nextInt(4) == 0 ? 1 : near(101);
        int told = told();
        long most = random.nextInt(10) == 0 ? new long[] {Long.MIN_VALUE, Long.MAX_VALUE, 70000, -70000}[random.nextInt(4)]
                : o.count(3) == 0 ? v : o.sum(random.nextInt(Math.min(200, o.count(3)))) + random.nextInt(3) - 1;
        String args = "(w " + w + ", j " + j + ", k " + k + ", l " + l + ", v " + v + ", what " + what + ", rule " + rule + ", step " + step + ", told " + told + ", most " + most + ")";
        switch (which) {
            case 0: due("cost" + args, x.cost(w, j), o.cost(w, j)); break;
            case 1: due("sum" + args, x.sum(k), o.sum(k)); break;
            case 2: due("job" + args, x.job(k, w), o.job(k, w)); break;
            case 3: due("ties" + args, x.ties(k), o.ties(k)); break;
            case 4: due("under" + args, x.under(most), o.under(most)); break;
            case 5: due("place" + args, x.place(told), o.place(told)); break;
            case 6: due("forced" + args, x.forced(w, j), o.forced(w, j)); break;
            case 7: due("without" + args, x.without(w, j), o.without(w, j)); break;
            case 8: case 9:
                if (o.count(3) < 3000) {
                    due("stays" + args, x.stays(w, j, what), o.stays(w, j, what));
                }
                break;
            case 10: due("would" + args, x.would(w, j, v), o.would(w, j, v)); break;
            case 11: due("ever" + args, x.ever(w), o.ever(w)); break;
            case 12: due("price" + args, x.price(j), o.price(j)); break;
            case 13: due("pay" + args, x.pay(w), o.pay(w)); break;
            case 14: case 15: due("first" + args, x.first(rule, v, what), o.first(rule, v, what)); break;
            case 16: case 17: due("firstJob" + args, x.firstJob(rule, v, w), o.firstJob(rule, v, w)); break;
            case 18: due("greedy" + args, x.greedy(what), o.greedy(what)); break;
            case 19: due("greedyJob" + args, x.greedyJob(w), o.greedyJob(w)); break;
            case 20: due("mended" + args, x.mended(what), o.mended(what)); break;
            case 21: due("auction" + args, x.auction(step, what), o.auction(step, what)); break;
            case 22: due("auctionPrice" + args, x.auctionPrice(step, j), o.auctionPrice(step, j)); break;
            case 23: due("auctionJob" + args, x.auctionJob(step, w), o.auctionJob(step, w)); break;
            case 24: due("drawn" + args, x.drawn(k * 987654321987L + l), o.drawn(k * 987654321987L + l)); break;
            case 25: due("least" + args, x.least(j, what), o.least(j, what)); break;
            case 26: due("loss" + args, x.loss(k), o.loss(k)); break;
            case 27: due("dearest" + args, x.dearest(k), o.dearest(k)); break;
            case 28: due("apart" + args, x.apart(k, l), o.apart(k, l)); break;
            case 29: case 30: due("rounds" + args, x.rounds(k, l, rule), o.rounds(k, l, rule)); break;
            case 31: due("often" + args, x.often(w, j, k + 1), o.often(w, j, k + 1)); break;
            case 32: int set = near(1 << o.count(1)); due("only(" + set + ")", x.only(set), o.only(set)); break;
            case 33: due("blocked" + args, x.blocked(), o.blocked()); break;
            case 34: due("move" + args, x.move(told, what), o.move(told, what)); break;
            case 35: due("middle" + args, x.middle(), o.middle()); break;
            case 36: due("reduced" + args, x.reduced(w, j), o.reduced(w, j)); break;
            default: due("noughts" + args, x.noughts(), o.noughts()); break;
        }
    }
}
