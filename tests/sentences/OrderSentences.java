/** Terms II, and promises 8 to 12, 28, 30, 31, 34 and 38: assignments in their order. */
final class OrderSentences extends Sentences {
    private static final int[] NO_RANKS = {-1, 200, 201, MIN, MAX};

    OrderSentences(Check check, Quotes quotes) {
        super(check, quotes);
    }

    @Override
    public void all() {
        under("Terms");
        says("II. An ASSIGNMENT: each WORKER has a JOB, no two the same, no COST NEVER.", this::assignment);
        says("SUM: of its COSTS.", this::sums);
        says("ORDER: by SUM; of like ones by the JOB of WORKER 0, then 1, and on, the least first.", this::order);
        says("(Without WORKERS: there is one, SUM 0.)", this::withoutWorkers);
        sum();
        job();
        ties();
        underMost();
        place();
        drawn();
        loss();
        dearest();
        often();
        middle();
    }

    private void rowIs(NextBest x, int k, int... jobs) {
        for (int worker = 0; worker < jobs.length; worker++) {
            due("job(" + k + ", " + worker + ")", x.job(k, worker), jobs[worker]);
        }
    }

    private void assignment() {
        due("one for one", Check.told("jobs 1;worker 3;").count(3), 1);
        due("two for one", Check.told("jobs 1;worker 3;worker 3;").count(3), 0);
        due("one for none", Tables.jobless(1).count(3), 0);
        due("one for one that is NEVER", Check.told("jobs 1;worker x;").count(3), 0);
        due("both want the same", Check.told(Tables.STUCK).count(3), 0);
        due("one of two is NEVER", Check.told("jobs 2;worker 1,1;worker 1,x;").count(3), 1);
        due("seven for seven", Tables.even(7, 7, 1).count(3), 5040);
        due("seven for eight", Tables.even(7, 8, 1).count(3), 40320);
        due("seven for six", Tables.even(7, 6, 1).count(3), 0);
        due("199", Check.told(Tables.ALL_199).count(3), 199);
        due("200", Check.told(Tables.ALL_200).count(3), 200);
        due("201", Check.told(Tables.ALL_201).count(3), 201);
    }

    private void sums() {
        due("the least there can be", Tables.even(7, 8, -9999).sum(0), -69993);
        due("the greatest there can be", Tables.even(7, 8, 9999).sum(199), 69993);
        due("of one", Check.told("jobs 1;worker -5;").sum(0), -5);
        NextBest x = Check.told("jobs 2;worker -9999,9999;worker 9999,-9999;");
        due("the one end", x.sum(0), -19998);
        due("the other end", x.sum(1), 19998);
        // each worker has two jobs, and all go on to the dearer one together
        StringBuilder ring = new StringBuilder("jobs 7;");
        for (int worker = 0; worker < 7; worker++) {
            String[] costs = {"x", "x", "x", "x", "x", "x", "x"};
            costs[worker] = "-9999";
            costs[(worker + 1) % 7] = "9999";
            ring.append("worker ").append(String.join(",", costs)).append(';');
        }
        NextBest farthest = Check.told(ring.toString());
        due("two", farthest.count(3), 2);
        due("the least", farthest.sum(0), -69993);
        due("the greatest", farthest.sum(1), 69993);
        due("below the greatest", farthest.under(69992), 1);
        due("in the middle", farthest.middle(), -69993);
    }

    private void order() {
        rowIs(Check.told("jobs 2;worker 1,0;worker 0,0;"), 0, 1, 0);
        rowIs(Check.told("jobs 2;worker 0,0;worker 0,0;"), 0, 0, 1);
        // like sums by worker 1, as worker 0 has but one job
        rowIs(Check.told("jobs 3;worker x,4,x;worker 2,x,2;"), 0, 1, 0);
        rowIs(Check.told("jobs 3;worker x,4,x;worker 2,x,2;"), 1, 1, 2);
        NextBest most = Tables.full();
        rowIs(most, 0, 0, 1, 2, 3, 4, 5, 6);
        rowIs(most, 1, 0, 1, 2, 3, 4, 5, 7);
        rowIs(most, 2, 0, 1, 2, 3, 4, 6, 5);
        rowIs(most, 199, 0, 1, 3, 6, 4, 2, 7);
        rowIs(Tables.even(3, 7, -9), 199, 6, 3, 5);
        // worker 6 has job 1 for less: the sum goes ahead of the rows
        most.sets(6, 1, -1);
        due("the least sum", most.sum(0), -1);
        rowIs(most, 0, 0, 2, 3, 4, 5, 6, 1);
        inOrder(7, 8, 19999);
        inOrder(7, 7, 5);
        inOrder(6, 8, 300);
        inOrder(5, 6, 3);
        inOrder(4, 5, 40);
        inOrder(3, 3, 2);
    }

    /** Costs all over a span, the middle of which is 0. */
    private static NextBest uneven(int workers, int jobs, int span) {
        NextBest x = Tables.even(workers, jobs, 0);
        for (int i = 0; i < workers * jobs; i++) {
            x.sets(i / jobs, i % jobs, (i * 7919 + 31) % 9973 * 4801 % span - span / 2);
        }
        return x;
    }

    /** Each of the first ones has a sum that just so many are below or at, rows that go up, and its own place. */
    private void inOrder(int workers, int jobs, int span) {
        long last = NO;
        int lastTold = 0;
        int many = Math.min(200, uneven(workers, jobs, span).count(3));
        for (int k = 0; k < many; k += k < 8 || k > 190 ? 1 : 9) {
            // a new one each time, so that none takes more calls than an object may
            NextBest x = uneven(workers, jobs, span);
            long sum = x.sum(k);
            int told = 0;
            long costs = 0;
            for (int worker = 0; worker < workers; worker++) {
                told = told * 8 + x.job(k, worker);
                costs += x.cost(worker, x.job(k, worker));
            }
            due("the costs of " + k, costs, sum);
            due("goes up at " + k, sum > last || sum == last && told > lastTold ? 1 : 0, 1);
            due("enough are at most as dear as " + k, x.under(sum) > k ? 1 : 0, 1);
            due("not too many are cheaper than " + k, x.under(sum - 1) <= k ? 1 : 0, 1);
            due("like ones of " + k, x.ties(k), x.under(sum) - x.under(sum - 1));
            due("place of " + k, x.place(told), k);
            last = sum;
            lastTold = told;
        }
    }

    private void withoutWorkers() {
        for (NextBest x : new NextBest[] {new NextBest(), Check.told("jobs 8;")}) {
            due("how many", x.count(3), 1);
            due("sum(0)", x.sum(0), 0);
            due("sum(1)", x.sum(1), NO);
            due("under(0)", x.under(0), 1);
            due("under(-1)", x.under(-1), 0);
            due("place(0)", x.place(0), 0);
            due("place(1)", x.place(1), NONE);
            due("ties(0)", x.ties(0), 1);
        }
        NextBest gone = Check.told("jobs 1;worker x;");
        due("none yet", gone.count(3), 0);
        gone.goes(0, 0);
        due("the worker gone", gone.count(3), 1);
    }

    private void sum() {
        under("Promise 8: sum");
        says("The SUM of the k-th ASSIGNMENT (from 0).", () -> {
            NextBest x = Check.told(Tables.WIDE);
            due("sum(0)", x.sum(0), -1);
            due("sum(1)", x.sum(1), 2);
            due("sum(2)", x.sum(2), 3);
            due("sum(3)", x.sum(3), 6);
        });
        says("NO_SUCH: not so many, k is not 0 .. 199.", () -> {
            due("the 5th of 4", Check.told(Tables.WIDE).sum(4), NO);
            due("of none", Check.told(Tables.STUCK).sum(0), NO);
            due("199 of 199", Check.told(Tables.ALL_199).sum(199), NO);
            due("198 of 199", Check.told(Tables.ALL_199).sum(198), 0);
            due("199 of 200", Check.told(Tables.ALL_200).sum(199), 0);
            due("199 of 201", Check.told(Tables.ALL_201).sum(199), 0);
            for (int k : NO_RANKS) {
                due("sum(" + k + ") of 201", Check.told(Tables.ALL_201).sum(k), NO);
                due("sum(" + k + ") of 40320", Tables.full().sum(k), NO);
            }
        });
    }

    private void job() {
        under("Promise 9: job");
        says("The JOB of a WORKER in the k-th.", () -> {
            rowIs(Check.told(Tables.WIDE), 0, 3, 1);
            rowIs(Check.told(Tables.WIDE), 3, 0, 2);
            rowIs(Check.told(Tables.ALL_200), 199, 6, 5, 4, 1);
            rowIs(Check.told(Tables.ALL_201), 199, 6, 4, 5, 2);
        });
        says("NONE: not so many;", () -> {
            due("the 5th of 4", Check.told(Tables.WIDE).job(4, 0), NONE);
            due("of none", Check.told(Tables.STUCK).job(0, 1), NONE);
            due("no jobs", Tables.jobless(1).job(0, 0), NONE);
            due("199 of 199", Check.told(Tables.ALL_199).job(199, 3), NONE);
            due("the 3rd of 2", Check.told("jobs 2;worker 1,2;").job(2, 0), NONE);
            // fewer than there were when they were last asked for
            NextBest fewer = Check.told(Tables.SQUARE);
            due("the 6th of 6", fewer.job(5, 0), 0);
            fewer.bars(0, 0);
            due("the 4th of 4", fewer.job(3, 0), 1);
            for (int k = 4; k < 7; k++) {
                due(k + " of 4", fewer.job(k, 0), NONE);
                due(k + " of 4", fewer.sum(k), NO);
            }
        });
        says("-2: k is not 0 .. 199, there is no such WORKER.", () -> {
            NextBest x = Check.told(Tables.WIDE);
            for (int k : NO_RANKS) {
                due("job(" + k + ", 0)", x.job(k, 0), -2);
                due("job(" + k + ", 0) of 40320", Tables.full().job(k, 0), -2);
            }
            for (int worker : new int[] {-1, 2, 7, MIN, MAX}) {
                due("job(0, " + worker + ")", x.job(0, worker), -2);
                due("ahead of NONE, job(9, " + worker + ")", x.job(9, worker), -2);
            }
            due("worker 7 of 7", Tables.full().job(0, 7), -2);
            due("without workers", new NextBest().job(0, 0), -2);
        });
    }

    private void ties() {
        under("Promise 10: ties");
        says("How many ASSIGNMENTS have the SUM of the k-th.", () -> {
            NextBest x = Check.told(Tables.SQUARE);
            long[] due = {1, 2, 2, 1, 1, 1};
            for (int k = 0; k < due.length; k++) {
                due("ties(" + k + ")", x.ties(k), due[k]);
            }
            due("more than can be asked for", Tables.full().ties(0), 40320);
            due("the last of 200", Check.told(Tables.ALL_200).ties(199), 200);
            due("199 of 201", Check.told(Tables.ALL_201).ties(199), 201);
        });
        says("NONE: not so many; -2: k is not 0 .. 199.", () -> {
            due("the 7th of 6", Check.told(Tables.SQUARE).ties(6), NONE);
            due("of none", Check.told(Tables.STUCK).ties(0), NONE);
            due("199 of 199", Check.told(Tables.ALL_199).ties(199), NONE);
            for (int k : NO_RANKS) {
                due("ties(" + k + ")", Tables.full().ties(k), -2);
                due("ties(" + k + ") of none", Check.told(Tables.STUCK).ties(k), -2);
            }
        });
    }

    private void underMost() {
        under("Promise 11: under");
        says("How many ASSIGNMENTS have a SUM of so much at most.", () -> {
            NextBest x = Check.told(Tables.WIDE);
            long[][] due = {{-2, 0}, {-1, 1}, {0, 1}, {1, 1}, {2, 2}, {3, 3}, {5, 3}, {6, 4}, {7, 4},
                {Long.MAX_VALUE, 4}, {Long.MAX_VALUE - 1, 4}, {Long.MIN_VALUE, 0}, {Long.MIN_VALUE + 1, 0},
                {1L << 32, 4}, {-1L << 32, 0}};
            for (long[] one : due) {
                due("under(" + one[0] + ")", x.under(one[0]), one[1]);
            }
            due("none", Check.told(Tables.STUCK).under(Long.MAX_VALUE), 0);
            due("all", Tables.full().under(0), 40320);
            due("none of all", Tables.full().under(-1), 0);
            due("the least there can be", Tables.even(7, 8, -9999).under(-69993), 40320);
            due("below it", Tables.even(7, 8, -9999).under(-69994), 0);
            due("below the greatest", Tables.even(7, 8, 9999).under(69992), 0);
            due("the greatest there can be", Tables.even(7, 8, 9999).under(69993), 40320);
        });
    }

    private void place() {
        under("Promise 12: place");
        says("Which one (from 0) is told: JOBS as digits to base 8, that of the last WORKER the lowest.", () -> {
            NextBest x = Check.told(Tables.WIDE);
            due("31", x.place(031), 0);
            due("32", x.place(032), 1);
            due("01", x.place(001), 2);
            due("02", x.place(002), 3);
            due("the first of all", Tables.full().place(0123456), 0);
            due("0136427", Tables.full().place(0136427), 199);
            due("the last of all", Tables.full().place(07654321), 40319);
            due("199 of 200", Check.told(Tables.ALL_200).place(06541), 199);
            due("beyond what can be asked for", Check.told(Tables.ALL_201).place(06453), 200);
        });
        says("NONE: it is none.", () -> {
            NextBest x = Check.told(Tables.WIDE);
            int[] none = {013, 033, 011, 012, 021, 041, 037, 0131, 01031, 0100031, -031, -1, MIN, MAX, MIN + 031};
            for (int told : none) {
                due("place(" + told + ")", x.place(told), NONE);
            }
            due("no such job", Check.told(Tables.SQUARE).place(0123), NONE);
            due("an eighth digit", Tables.full().place(010123456), NONE);
            due("twice the same", Tables.full().place(07654322), NONE);
            due("of none", Check.told(Tables.STUCK).place(001), NONE);
            due("no jobs", Tables.jobless(1).place(0), NONE);
            due("without workers, a digit", new NextBest().place(8), NONE);
        });
    }

    private void drawn() {
        under("Promise 28: drawn");
        says("Which ASSIGNMENT a seed draws: it times 6364136223846793005 and 1442695040888963407", () -> {
            due("seed 0", Tables.full().drawn(0), 19007);
            due("seed 1", Tables.full().drawn(1), 21974);
        });
        says("(longs, going round),", () -> {
            due("seed 9223372036854775807", Tables.full().drawn(Long.MAX_VALUE), 36264);
            due("seed 9223372036854775807, of six", Check.told(Tables.SQUARE).drawn(Long.MAX_VALUE), 0);
            // of these the lower 33 bits are all 0, all 1: the last digit counts
            due("seed 559108117", Tables.full().drawn(559108117L), 31617);
            due("seed 4004849520", Tables.full().drawn(4004849520L), 12148);
        });
        says("shifted right by 33 without sign,", () -> {
            // the highest bit is set in each of these
            due("seed 2", Tables.full().drawn(2), 24940);
            due("seed -1", Tables.full().drawn(-1), 16168);
            due("seed -9223372036854775808", Tables.full().drawn(Long.MIN_VALUE), 39231);
        });
        says("modulo how many there are.", () -> {
            due("of one", new NextBest().drawn(7), 0);
            due("of six, seed 0", Check.told(Tables.SQUARE).drawn(0), 5);
            due("of six, seed 2", Check.told(Tables.SQUARE).drawn(2), 4);
            due("of six, seed -9223372036854775808", Check.told(Tables.SQUARE).drawn(Long.MIN_VALUE), 3);
        });
        says("NONE: there are none.", () -> {
            due("stuck", Check.told(Tables.STUCK).drawn(0), NONE);
            due("no jobs", Tables.jobless(7).drawn(-1), NONE);
        });
    }

    private void loss() {
        under("Promise 30: loss");
        says("How much the SUM of the k-th is above the least one of each WORKER's COSTS, together.", () -> {
            // the least ones: 1, 0, 2
            NextBest x = Check.told(Tables.SQUARE);
            long[] due = {2, 3, 3, 4, 6, 8};
            for (int k = 0; k < due.length; k++) {
                due("loss(" + k + ")", x.loss(k), due[k]);
            }
            due("below 0", Check.told("jobs 2;worker -5,-7;worker x,-9;").loss(0), 2);
            due("none above", Tables.full().loss(199), 0);
            due("far above", Check.told("jobs 2;worker -9999,9999;worker -9999,x;").loss(0), 19998);
            due("without workers", Check.told("jobs 3;").loss(0), 0);
        });
        says("NO_SUCH likewise as sum().", () -> {
            due("the 7th of 6", Check.told(Tables.SQUARE).loss(6), NO);
            due("of none", Check.told(Tables.STUCK).loss(0), NO);
            due("a worker all NEVER", Check.told("jobs 2;worker x,x;").loss(0), NO);
            due("199 of 199", Check.told(Tables.ALL_199).loss(199), NO);
            due("without workers, the second", new NextBest().loss(1), NO);
            for (int k : NO_RANKS) {
                due("loss(" + k + ")", Tables.full().loss(k), NO);
            }
        });
    }

    private void dearest() {
        under("Promise 31: dearest");
        says("The greatest COST in the k-th.", () -> {
            NextBest x = Check.told(Tables.SQUARE);
            long[] due = {2, 4, 3, 3, 5, 5};
            for (int k = 0; k < due.length; k++) {
                due("dearest(" + k + ")", x.dearest(k), due[k]);
            }
            due("all below 0", Check.told("jobs 2;worker -9999,x;worker x,-9998;").dearest(0), -9998);
            due("of one", Check.told("jobs 1;worker -9999;").dearest(0), -9999);
            due("199 of 200", Check.told(Tables.ALL_200).dearest(199), 0);
        });
        says("NO_SUCH likewise; without WORKERS.", () -> {
            due("the 7th of 6", Check.told(Tables.SQUARE).dearest(6), NO);
            due("of none", Check.told(Tables.STUCK).dearest(0), NO);
            due("199 of 199", Check.told(Tables.ALL_199).dearest(199), NO);
            for (int k : NO_RANKS) {
                due("dearest(" + k + ")", Tables.full().dearest(k), NO);
            }
            due("new", new NextBest().dearest(0), NO);
            due("jobs alone", Check.told("jobs 2;").dearest(0), NO);
        });
    }

    private void often() {
        under("Promise 34: often");
        says("In how many of the first n ASSIGNMENTS", () -> {
            NextBest x = Check.told(Tables.SQUARE);
            // worker 0 has 1, 0, 2, 2, 1, 0
            int[] due = {0, 1, 1, 1, 1, 2};
            for (int n = 1; n <= 6; n++) {
                due("often(0, 0, " + n + ")", x.often(0, 0, n), due[n - 1]);
            }
        });
        says("(1 .. 200; fewer, if there are not so many) a WORKER has a JOB.", () -> {
            due("200 of 6", Check.told(Tables.SQUARE).often(0, 0, 200), 2);
            due("7 of 6", Check.told(Tables.SQUARE).often(2, 2, 7), 2);
            due("1", Check.told(Tables.SQUARE).often(0, 1, 1), 1);
            due("1 of 1", Check.told("jobs 1;worker 3;").often(0, 0, 1), 1);
            due("200 of 1", Check.told("jobs 1;worker 3;").often(0, 0, 200), 1);
            due("of none", Check.told(Tables.STUCK).often(0, 1, 200), 0);
            due("NEVER", Check.told(Tables.WIDE).often(0, 1, 200), 0);
            due("199 of 40320", Tables.full().often(2, 3, 199), 79);
            due("200 of 40320", Tables.full().often(2, 3, 200), 80);
            due("all of 199", oftenAny(Check.told(Tables.ALL_199)), 199);
            due("all of 200", oftenAny(Check.told(Tables.ALL_200)), 200);
            due("all of 201 that count", oftenAny(Check.told(Tables.ALL_201)), 200);
        });
        says("-2: there are none such.", () -> {
            NextBest x = Check.told(Tables.WIDE);
            for (int n : new int[] {0, -1, 201, MIN, MAX}) {
                due("often(0, 0, " + n + ")", x.often(0, 0, n), -2);
                due("of none, often(0, 0, " + n + ")", Check.told(Tables.STUCK).often(0, 0, n), -2);
            }
            for (int one : new int[] {-1, 4, 8, MIN, MAX}) {
                due("worker " + one, x.often(one, 0, 1), -2);
                due("job " + one, x.often(0, one, 1), -2);
            }
            due("worker 2 of 2", x.often(2, 0, 1), -2);
            due("without workers", Check.told("jobs 1;").often(0, 0, 1), -2);
            due("without jobs", Tables.jobless(1).often(0, 0, 1), -2);
        });
    }

    private static int oftenAny(NextBest x) {
        int together = 0;
        for (int job = 0; job < x.count(1); job++) {
            together += x.often(0, job, 200);
        }
        return together;
    }

    private void middle() {
        under("Promise 38: middle");
        says("The SUM of the ASSIGNMENT in the middle: the k-th by ORDER, k being how many there are less 1, by 2, cut.", () -> {
            due("of one", new NextBest().middle(), 0);
            due("of one", Check.told("jobs 1;worker 8;").middle(), 8);
            due("of two the first", Check.told("jobs 2;worker 8,3;").middle(), 3);
            due("of three the second", Check.told("jobs 3;worker 8,3,5;").middle(), 5);
            due("of four the second", Check.told(Tables.WIDE).middle(), 2);
            due("of five the third", Check.told("jobs 5;worker 8,3,5,1,9;").middle(), 5);
            due("of six the third", Check.told(Tables.SQUARE).middle(), 6);
            due("of eight the fourth", Check.told("jobs 8;worker 80,30,50,10,90,20,70,60;").middle(), 50);
            due("of all there can be", Tables.even(7, 8, -9999).middle(), -69993);
            // of 40320, one in eight is without job 7, which costs 1 more: 5040 of sum 0, then sum 1
            NextBest x = Tables.full();
            x.tilts(7, 1, 1);
            due("beyond what can be asked for", x.middle(), 1);
            for (NextBest y : new NextBest[] {uneven(7, 8, 19999), uneven(7, 7, 5), uneven(6, 8, 300), uneven(2, 3, 19999)}) {
                int k = (y.count(3) - 1) / 2;
                due("enough are at most so dear", y.under(y.middle()) > k ? 1 : 0, 1);
                due("not too many are cheaper", y.under(y.middle() - 1) <= k ? 1 : 0, 1);
            }
        });
        says("NO_SUCH: there are none.", () -> {
            due("stuck", Check.told(Tables.STUCK).middle(), NO);
            due("no jobs", Tables.jobless(1).middle(), NO);
        });
    }
}
