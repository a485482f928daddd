/** The rules, Terms III, and promises 20 to 27: first by a rule, greed, mending, the auction. */
final class ChoiceSentences extends Sentences {
    /* 012 (10): 1 0 9; 021 (12): 1 5 6; 102 (25): 9 7 9; 120 (18): 9 5 4; 201 (18): 5 7 6; 210 (9): 5 0 4. */
    private static final String RULED = "jobs 3;worker 1,9,5;worker 7,0,5;worker 4,6,9;";
    /* Greed takes job 0 from under worker 1, though 10 (10) could be. */
    private static final String GREEDY_STUCK = "jobs 2;worker 0,9;worker 1,x;";
    /* Worker 1 has no job at all, so worker 2 never bids. */
    private static final String HALTED = "jobs 2;worker 4,6;worker x,x;worker 1,1;";

    ChoiceSentences(Check check, Quotes quotes) {
        super(check, quotes);
    }

    @Override
    public void all() {
        under("Terms");
        says("RULES: by MEASURE, then SUM, then as by ORDER.", this::rulesByMeasure);
        says("MEASURE by 0: SUM; 1: the greatest COST; 2: the greatest COST less the least one;", this::measures);
        says("3: how many COSTS are above limit.", this::aboveLimit);
        says("(Without WORKERS: 0.)", this::rulesWithoutWorkers);
        says("III. GREEDY: time and again the least COST of a WORKER without a JOB and a JOB that none has "
                + "(of like ones the least WORKER, then JOB) is taken,", this::greed);
        says("till there is none (stuck, if one has no JOB).", this::greedStuck);
        says("MENDED: from GREEDY on STEPS, each of those by which the SUM gets less the one by which it gets least:", this::mending);
        says("a WORKER goes to a JOB that none has, two WORKERS change JOBS (no COST NEVER);", this::stepsOfMending);
        says("of like ones a going first (least WORKER, then JOB), then the least two (the lesser first), till none does.",
                this::mendingTies);
        says("AUCTION: PRICES of JOBS are 0 at first, all WORKERS wait, by number.", this::auctionOpens);
        says("Time and again the one who waits first BIDS: NET of a JOB that is not NEVER for that WORKER: COST and PRICE;",
                this::auctionNets);
        says("of the least NET (of like ones the least JOB) the PRICE is more by how much less its NET is "
                + "than the least NET of the others", this::auctionBid);
        says("(1000, if there is none), and by step;", this::auctionAlone);
        says("the WORKER has that JOB; who had it waits behind all.", this::auctionOusts);
        says("It ends as none waits, behind 500 BIDS,", this::auctionEnds);
        says("or as one who waits first has no JOB that is not NEVER (that one waits on, it is no BID).", this::auctionHalts);
        first();
        firstJob();
        greedy();
        greedyJob();
        mended();
        auction();
        auctionPrice();
        auctionJob();
    }

    private void firstIs(NextBest x, int rule, int limit, long... due) {
        String call = "by rule " + rule + ", limit " + limit;
        due(call + ", measure", x.first(rule, limit, 0), due[0]);
        due(call + ", sum", x.first(rule, limit, 1), due[1]);
        for (int worker = 0; worker + 2 < due.length; worker++) {
            due(call + ", worker " + worker, x.firstJob(rule, limit, worker), due[worker + 2]);
        }
    }

    private void rulesByMeasure() {
        NextBest x = Check.told(RULED);
        firstIs(x, 0, 0, 9, 9, 2, 1, 0);
        firstIs(x, 1, 0, 5, 9, 2, 1, 0);
        firstIs(x, 2, 0, 2, 18, 2, 0, 1);
        firstIs(x, 3, 1, 1, 10, 0, 1, 2);
        // like measures: 01 (5, 2), 02 (5, 1), 20 (5, 3), 21 (5, 2)
        firstIs(Check.told("jobs 3;worker 5,x,5;worker 3,2,1;"), 1, 0, 5, 6, 0, 2);
        // like measures and sums: 01 (5, 1), 21 (5, 1)
        firstIs(Check.told("jobs 3;worker 5,x,5;worker 3,1,x;"), 1, 0, 5, 6, 0, 1);
        firstIs(Check.told("jobs 2;worker 1,2;worker 1,2;"), 2, 0, 1, 3, 0, 1);
        // the lesser spread goes ahead of the lesser sum: 01 (5, 6), 10 (0, 3)
        firstIs(Check.told("jobs 2;worker 5,0;worker 3,6;"), 2, 0, 1, 11, 0, 1);
        // of like spread: 7, 7 and 8, 7 are dearer than 1, 2
        firstIs(Check.told("jobs 4;worker x,8,1,x;worker 7,x,x,2;"), 2, 0, 1, 3, 2, 3);
        // the lesser greatest cost goes ahead of the lesser sum, below 0 too: 01 (-5, -2), 10 (-1, -9)
        firstIs(Check.told("jobs 2;worker -5,-1;worker -9,-2;"), 1, 0, -2, -7, 0, 1);
        // like spread 4 and like sum 10, one from 1 to 5 and one from 2 to 6: by rows
        firstIs(Check.told("jobs 3;worker 6,1,x;worker x,2,5;worker 4,x,2;"), 2, 0, 4, 10, 0, 1, 2);
        firstIs(Check.told("jobs 3;worker 6,1,x;worker 5,x,2;worker x,2,4;"), 2, 0, 4, 10, 0, 2, 1);
        firstIs(Check.told("jobs 3;worker 1,6,x;worker x,5,2;worker 2,x,4;"), 2, 0, 4, 10, 0, 1, 2);
        firstIs(Check.told(Tables.SQUARE), 3, 100, 0, 5, 1, 0, 2);
        for (int rule = 0; rule < 4; rule++) {
            firstIs(Tables.full(), rule, 0, 0, 0, 0, 1, 2, 3, 4, 5, 6);
        }
    }

    private void measures() {
        due("0 of the least", Tables.even(7, 8, -9999).first(0, 0, 0), -69993);
        due("0 of the greatest", Tables.even(7, 8, 9999).first(0, 0, 0), 69993);
        due("1 of the least", Tables.even(7, 8, -9999).first(1, 0, 0), -9999);
        due("1 of the greatest", Tables.even(7, 8, 9999).first(1, 0, 0), 9999);
        due("2 of like ones", Tables.even(7, 8, 9999).first(2, 0, 0), 0);
        due("2 as much as can be", Check.told("jobs 2;worker -9999,9999;worker -9999,9999;").first(2, 0, 0), 19998);
        firstIs(Check.told("jobs 3;worker 4,-9999,9999;"), 2, 0, 0, -9999, 1);
        firstIs(Check.told("jobs 3;worker 4,-9999,9999;"), 1, 0, -9999, -9999, 1);
    }

    private void aboveLimit() {
        NextBest one = Check.told("jobs 1;worker 5;");
        due("one less", one.first(3, 4, 0), 1);
        due("the cost itself", one.first(3, 5, 0), 0);
        due("one more", one.first(3, 6, 0), 0);
        due("far below", one.first(3, MIN, 0), 1);
        due("far above", one.first(3, MAX, 0), 0);
        due("all above", Tables.even(7, 8, 9999).first(3, 9998, 0), 7);
        due("none above", Tables.even(7, 8, 9999).first(3, 9999, 0), 0);
        due("all above, below 0", Tables.even(7, 7, -9999).first(3, -10000, 0), 7);
        due("none above, below 0", Tables.even(7, 7, -9999).first(3, -9999, 0), 0);
        NextBest x = Check.told(RULED);
        firstIs(x, 3, 0, 2, 9, 2, 1, 0);
        firstIs(x, 3, 4, 1, 9, 2, 1, 0);
        firstIs(x, 3, 5, 0, 9, 2, 1, 0);
        firstIs(x, 3, MIN, 3, 9, 2, 1, 0);
        // few above go ahead of any sum
        firstIs(Check.told("jobs 2;worker -9999,9999;worker 0,-1;"), 3, 0, 0, -10000, 0, 1);
        firstIs(Check.told("jobs 2;worker 1,9999;worker -9999,1;"), 3, 0, 1, 0, 1, 0);
    }

    private void rulesWithoutWorkers() {
        for (int rule = 0; rule < 4; rule++) {
            for (int limit : new int[] {0, -1, MIN, MAX}) {
                firstIs(new NextBest(), rule, limit, 0, 0);
                firstIs(Check.told("jobs 8;"), rule, limit, 0, 0);
            }
        }
    }

    private void greedIs(String text, long sum, long placed, int... jobs) {
        NextBest x = Check.told(text);
        due("sum by greed of " + text, x.greedy(0), sum);
        due("placed by greed of " + text, x.greedy(1), placed);
        for (int worker = 0; worker < jobs.length; worker++) {
            due("worker " + worker + " by greed of " + text, x.greedyJob(worker), jobs[worker]);
        }
    }

    private void greed() {
        greedIs(Tables.SQUARE, 6, 3, 0, 1, 2);
        greedIs("jobs 2;worker 0,0;worker 0,0;", 0, 2, 0, 1);
        greedIs("jobs 2;worker 5,0;worker 0,5;", 0, 2, 1, 0);
        // worker 0 goes ahead of job 0
        greedIs("jobs 2;worker 5,0;worker 0,0;", 0, 2, 1, 0);
        greedIs("jobs 2;worker x,0;worker 9,0;", 9, 2, 1, 0);
        greedIs("jobs 3;worker -9999,9999,x;worker -9999,x,9999;", 0, 2, 0, 2);
        due("full", Tables.full().greedyJob(6), 6);
    }

    private void greedStuck() {
        greedIs(Tables.STUCK, -4, 1, NONE, 1);
        greedIs(GREEDY_STUCK, 0, 1, 0, NONE);
        greedIs("jobs 1;worker x;", 0, 0, NONE);
        greedIs("jobs 2;worker 3,3;worker 3,3;worker 3,3;", 6, 2, 0, 1, NONE);
        greedIs("jobs 2;", 0, 0);
        due("no jobs", Tables.jobless(7).greedy(1), 0);
        due("no jobs", Tables.jobless(7).greedyJob(6), NONE);
    }

    private void mendedIs(String why, String text, long sum, long steps) {
        NextBest x = Check.told(text);
        due("sum, " + why, x.mended(0), sum);
        due("steps, " + why, x.mended(1), steps);
    }

    private void mending() {
        mendedIs("one change", "jobs 2;worker 0,1;worker 1,9;", 2, 1);
        mendedIs("less by 1 is less", "jobs 2;worker 0,1;worker 1,3;", 2, 1);
        mendedIs("as much is not less", "jobs 2;worker 0,1;worker 1,2;", 2, 0);
        mendedIs("nothing to mend", "jobs 2;worker 0,5;worker 5,0;", 0, 0);
        mendedIs("far", "jobs 2;worker -9999,-9998;worker -9998,9999;", -19996, 1);
        mendedIs("without workers", "jobs 2;", 0, 0);
        // two changes can be, by 1 and by 7: the greater one goes first, and the other is none then
        mendedIs("the one by which it gets least", "jobs 3;worker 0,1,1;worker 1,9,9;worker 1,9,3;", 5, 1);
    }

    private void stepsOfMending() {
        // greed: 0 and 20; they change: 9 and 1; then worker 0 goes to job 2: 8 and 1
        mendedIs("a change, then a going", "jobs 3;worker 0,9,8;worker 1,20,21;", 9, 2);
        mendedIs("the going is NEVER", "jobs 3;worker 0,9,x;worker 1,20,21;", 10, 1);
        mendedIs("the change is NEVER", "jobs 2;worker 0,x;worker 1,9;", 9, 0);
        mendedIs("the change is NEVER for the other", "jobs 2;worker 0,1;worker x,9;", 9, 0);
        // greed takes 012 (0, 2, 2); three must go round to get less (0, 3, 0), no two can
        mendedIs("a ring of three is no step", "jobs 3;worker 0,0,9;worker 9,2,3;worker 0,9,2;", 4, 0);
    }

    /* Tables on which another choice among like steps ends elsewhere, or behind more steps. */
    private void mendingTies() {
        mendedIs("a going first", "jobs 5;worker 2,0,0,8,1;worker 3,0,5,7,3;worker 3,2,6,4,6;worker 2,1,1,5,5;", 5, 3);
        mendedIs("the least worker goes", "jobs 7;worker 5,4,1,4,1,6,5;worker 6,2,0,3,3,1,0;worker 3,2,2,4,1,1,4;"
                + "worker 6,6,0,6,4,3,6;worker 3,5,5,2,5,3,6;", 4, 4);
        mendedIs("to the least job", "jobs 7;worker 3,3,1,0,2,1,2;worker 5,4,4,1,8,5,6;worker 5,2,2,3,6,1,4;"
                + "worker 1,0,3,2,4,4,4;worker 1,4,2,5,5,0,0;", 5, 2);
        mendedIs("the least two", "jobs 6;worker 3,2,3,0,2,2;worker 1,2,3,0,0,2;worker 0,2,2,0,3,1;worker 0,3,3,2,0,3;", 2, 1);
        mendedIs("the lesser first", "jobs 4;worker 6,4,0,8;worker 7,8,4,5;worker 2,8,1,1;worker 7,8,3,2;", 12, 3);
        mendedIs("then the other", "jobs 4;worker 3,0,0,0;worker 0,2,0,1;worker 1,0,2,2;worker 1,0,2,2;", 2, 1);
    }

    private void auctionIs(NextBest x, int step, long bids, long all, long sum) {
        due("bids, step " + step, x.auction(step, 0), bids);
        due("all have, step " + step, x.auction(step, 1), all);
        due("sum, step " + step, x.auction(step, 2), sum);
    }

    private void pricesAre(NextBest x, int step, int... prices) {
        for (int job = 0; job < prices.length; job++) {
            due("price of " + job + ", step " + step, x.auctionPrice(step, job), prices[job]);
        }
    }

    private void holdersAre(NextBest x, int step, int... jobs) {
        for (int worker = 0; worker < jobs.length; worker++) {
            due("job of " + worker + ", step " + step, x.auctionJob(step, worker), jobs[worker]);
        }
    }

    private void auctionOpens() {
        // who bids first has job 0
        NextBest like = Check.told("jobs 2;worker 0,0;worker 0,0;");
        holdersAre(like, 1, 0, 1);
        pricesAre(like, 1, 1, 2);
        // worker 0 bids 4 for job 0, worker 1 bids 10, worker 0 bids 8 for job 1
        NextBest x = Check.told("jobs 2;worker 0,3;worker 0,9;");
        auctionIs(x, 1, 3, 1, 3);
        holdersAre(x, 1, 1, 0);
        pricesAre(x, 1, 10, 8);
        pricesAre(Check.told("jobs 3;"), 1, 0, 0, 0);
        pricesAre(Check.told("jobs 3;worker x,x,x;"), 1, 0, 0, 0);
        pricesAre(Check.told("jobs 3;worker 1,2,3;"), 1, 2, 0, 0);
        // nothing is left of an auction in the next one
        pricesAre(x, 1, 10, 8);
    }

    private void auctionNets() {
        NextBest x = Check.told(Tables.SQUARE);
        auctionIs(x, 1, 3, 1, 5);
        pricesAre(x, 1, 2, 3, 4);
        holdersAre(x, 1, 1, 0, 2);
        NextBest never = Check.told(Tables.WIDE);
        holdersAre(never, 1, 3, 1);
        pricesAre(never, 1, 0, 4, 0, 5);
    }

    private void auctionBid() {
        NextBest like = Check.told("jobs 2;worker 5,5;");
        holdersAre(like, 7, 0);
        pricesAre(like, 7, 7, 0);
        NextBest far = Check.told("jobs 2;worker 9999,-9999;worker 9999,-9999;");
        pricesAre(far, 1, 2, 19999);
        holdersAre(far, 1, 1, 0);
    }

    private void auctionAlone() {
        pricesAre(Check.told("jobs 1;worker -3;"), 1, 1001);
        pricesAre(Check.told("jobs 1;worker -3;"), 99, 1099);
        pricesAre(Check.told("jobs 3;worker x,9999,x;"), 7, 0, 1007, 0);
        pricesAre(Check.told("jobs 2;worker 1,2;"), 99, 100, 0);
    }

    private void auctionOusts() {
        // were the one who lost a job first to bid again, it would end as 1, 0, 2 behind 4 bids
        NextBest x = Check.told("jobs 3;worker 0,4,8;worker 0,9,6;worker 1,1,5;");
        auctionIs(x, 2, 5, 1, 7);
        pricesAre(x, 2, 10, 6, 6);
        holdersAre(x, 2, 0, 2, 1);
    }

    private void auctionEnds() {
        auctionIs(Check.told("jobs 3;worker 0,0,496;worker 0,0,496;worker 0,0,496;"), 1, 499, 1, 496);
        NextBest just = Check.told("jobs 3;worker 0,0,497;worker 0,0,497;worker 0,0,497;");
        auctionIs(just, 1, 500, 1, 497);
        holdersAre(just, 1, 0, 2, 1);
        pricesAre(just, 1, 498, 498, 2);
        // it would take 501
        NextBest cut = Check.told("jobs 3;worker 0,0,498;worker 0,0,498;worker 0,0,498;");
        auctionIs(cut, 1, 500, 0, 0);
        holdersAre(cut, 1, 0, 1, NONE);
        pricesAre(cut, 1, 499, 499, 0);
        auctionIs(new NextBest(), 1, 0, 1, 0);
    }

    private void auctionHalts() {
        NextBest x = Check.told(HALTED);
        auctionIs(x, 1, 1, 0, 4);
        holdersAre(x, 1, 0, NONE, NONE);
        pricesAre(x, 1, 3, 0);
        auctionIs(Check.told("jobs 1;worker x;worker 1;"), 1, 0, 0, 0);
        auctionIs(Tables.jobless(1), 1, 0, 0, 0);
    }

    private void first() {
        under("Promise 20: first");
        says("The first ASSIGNMENT by a RULE (0 .. 3), what 0: its MEASURE, 1: its SUM.", () -> {
            long[][] due = {{9, 9}, {5, 9}, {2, 18}, {1, 9}};
            for (int rule = 0; rule < 4; rule++) {
                for (int what = 0; what < 2; what++) {
                    int by = rule;
                    int which = what;
                    leaves(RULED, "first(" + rule + ", 4, " + what + ")", x -> x.first(by, 4, which), due[rule][what]);
                }
            }
        });
        says("limit: of RULE 3.", () -> {
            NextBest x = Check.told(RULED);
            for (int limit : new int[] {MIN, -1, 0, 5, MAX}) {
                due("rule 0, limit " + limit, x.first(0, limit, 0), 9);
                due("rule 1, limit " + limit, x.first(1, limit, 0), 5);
                due("rule 2, limit " + limit, x.first(2, limit, 0), 2);
                due("rule 3, limit " + limit, x.first(3, limit, 0), limit < 0 ? 3 : limit == 0 ? 2 : 0);
            }
        });
        says("NO_SUCH: there are none (such).", () -> {
            for (int what = 0; what < 2; what++) {
                for (int rule : new int[] {-1, 4, 5, MIN, MAX}) {
                    due("rule " + rule, Check.told(RULED).first(rule, 0, what), NO);
                    due("rule " + rule + " without workers", new NextBest().first(rule, 0, what), NO);
                }
                for (int rule = 0; rule < 4; rule++) {
                    due("stuck, rule " + rule, Check.told(Tables.STUCK).first(rule, 0, what), NO);
                    due("no jobs, rule " + rule, Tables.jobless(1).first(rule, 0, what), NO);
                }
            }
            for (int what : new int[] {-1, 2, 3, MIN, MAX}) {
                due("what " + what, Check.told(RULED).first(0, 0, what), NO);
                due("what " + what + " without workers", new NextBest().first(3, 0, what), NO);
            }
        });
    }

    private void firstJob() {
        under("Promise 21: firstJob");
        says("The JOB of a WORKER in it.", () -> {
            NextBest x = Check.told(RULED);
            leaves(x, "rule 0, worker 0", () -> x.firstJob(0, 0, 0), 2);
            leaves(x, "rule 1, worker 1", () -> x.firstJob(1, 0, 1), 1);
            leaves(x, "rule 2, worker 2", () -> x.firstJob(2, 0, 2), 1);
            leaves(x, "rule 3, worker 2", () -> x.firstJob(3, 1, 2), 2);
            due("the last of all", Tables.full().firstJob(3, 0, 6), 6);
        });
        says("NONE: there is none; -2: there are none such.", () -> {
            for (int rule = 0; rule < 4; rule++) {
                due("stuck, rule " + rule, Check.told(Tables.STUCK).firstJob(rule, 0, 1), NONE);
                due("stuck, no such worker", Check.told(Tables.STUCK).firstJob(rule, 0, 2), -2);
                due("no jobs, rule " + rule, Tables.jobless(1).firstJob(rule, 0, 0), NONE);
                due("without workers, rule " + rule, new NextBest().firstJob(rule, 0, 0), -2);
                for (int worker : new int[] {-1, 3, 7, MIN, MAX}) {
                    due("worker " + worker, Check.told(RULED).firstJob(rule, 0, worker), -2);
                }
            }
            for (int rule : new int[] {-1, 4, MIN, MAX}) {
                due("rule " + rule, Check.told(RULED).firstJob(rule, 0, 0), -2);
                due("stuck, rule " + rule, Check.told(Tables.STUCK).firstJob(rule, 0, 0), -2);
            }
        });
    }

    private void greedy() {
        under("Promise 22: greedy");
        says("GREEDY, what 0: its SUM (of those that have JOBS), 1: how many WORKERS have one.", () -> {
            NextBest x = Check.told(Tables.SQUARE);
            leaves(x, "sum", () -> x.greedy(0), 6);
            leaves(x, "how many", () -> x.greedy(1), 3);
            greedIs(Tables.STUCK, -4, 1);
            greedIs("", 0, 0);
            due("all seven", Tables.even(7, 8, 9999).greedy(0), 69993);
            due("all seven", Tables.even(7, 8, 9999).greedy(1), 7);
        });
        says("NO_SUCH: there is no such what.", () -> {
            for (int what : new int[] {-1, 2, 3, MIN, MAX}) {
                due("greedy(" + what + ")", Check.told(Tables.SQUARE).greedy(what), NO);
                due("without workers, greedy(" + what + ")", new NextBest().greedy(what), NO);
            }
        });
    }

    private void greedyJob() {
        under("Promise 23: greedyJob");
        says("The JOB of a WORKER by it.", () -> {
            NextBest x = Check.told(Tables.SQUARE);
            leaves(x, "worker 0", () -> x.greedyJob(0), 0);
            leaves(x, "worker 1", () -> x.greedyJob(1), 1);
            leaves(x, "worker 2", () -> x.greedyJob(2), 2);
        });
        says("NONE: none; -2: there is no such WORKER.", () -> {
            due("stuck", Check.told(Tables.STUCK).greedyJob(0), NONE);
            due("no jobs", Tables.jobless(1).greedyJob(0), NONE);
            for (int worker : new int[] {-1, 2, 7, MIN, MAX}) {
                due("worker " + worker, Check.told(Tables.STUCK).greedyJob(worker), -2);
            }
            due("worker 7 of 7", Tables.full().greedyJob(7), -2);
            due("without workers", new NextBest().greedyJob(0), -2);
        });
    }

    private void mended() {
        under("Promise 24: mended");
        says("MENDED, what 0: the SUM, 1: how many STEPS.", () -> {
            NextBest x = Check.told(Tables.SQUARE);
            leaves(x, "sum", () -> x.mended(0), 5);
            leaves(x, "steps", () -> x.mended(1), 1);
            leaves(x, "greed is as it was", () -> x.greedy(0), 6);
            mendedIs("without workers", "", 0, 0);
        });
        says("NO_SUCH: GREEDY is stuck, there is no such what.", () -> {
            for (int what = 0; what < 2; what++) {
                due("stuck", Check.told(Tables.STUCK).mended(what), NO);
                due("stuck, though one could be", Check.told(GREEDY_STUCK).mended(what), NO);
                due("no jobs", Tables.jobless(1).mended(what), NO);
            }
            for (int what : new int[] {-1, 2, 3, MIN, MAX}) {
                due("mended(" + what + ")", Check.told(Tables.SQUARE).mended(what), NO);
                due("without workers, mended(" + what + ")", new NextBest().mended(what), NO);
            }
        });
    }

    private static final int[] NO_STEPS = {0, -1, 100, MIN, MAX};

    private void auction() {
        under("Promise 25: auction");
        says("AUCTION with a step (1 .. 99), what 0: how many BIDS,", () -> {
            NextBest x = Check.told("jobs 3;worker 0,4,8;worker 0,9,6;worker 1,1,5;");
            leaves(x, "step 1", () -> x.auction(1, 0), 5);
            leaves(x, "step 99", () -> x.auction(99, 0), 3);
            due("none", new NextBest().auction(1, 0), 0);
            due("500", Check.told(Tables.STUCK).auction(99, 0), 500);
        });
        says("1: 1 if each WORKER has a JOB at its end, else 0,", () -> {
            due("each", Check.told(Tables.WIDE).auction(1, 1), 1);
            due("all but one", Check.told(Tables.STUCK).auction(1, 1), 0);
            due("without workers", new NextBest().auction(1, 1), 1);
            due("no jobs", Tables.jobless(7).auction(1, 1), 0);
        });
        says("2: the SUM of those that have.", () -> {
            due("each", Check.told(Tables.WIDE).auction(1, 2), -1);
            due("all but one", Check.told(Tables.STUCK).auction(1, 2), -4);
            due("without workers", new NextBest().auction(1, 2), 0);
            due("no jobs", Tables.jobless(7).auction(1, 2), 0);
        });
        says("NO_SUCH: there are none such.", () -> {
            for (int step : NO_STEPS) {
                for (int what = 0; what < 3; what++) {
                    due("step " + step, Check.told(Tables.WIDE).auction(step, what), NO);
                }
            }
            for (int what : new int[] {-1, 3, MIN, MAX}) {
                due("what " + what, Check.told(Tables.WIDE).auction(1, what), NO);
                due("without workers, what " + what, new NextBest().auction(1, what), NO);
            }
        });
    }

    private void auctionPrice() {
        under("Promise 26: auctionPrice");
        says("The PRICE of a JOB behind it.", () -> {
            pricesAre(Check.told(Tables.WIDE), 1, 0, 4, 0, 5);
            pricesAre(Check.told(Tables.WIDE), 99, 0, 102, 0, 103);
            pricesAre(Check.told(Tables.STUCK), 1, 0, 500500);
            pricesAre(Check.told(Tables.STUCK), 99, 0, 549500);
        });
        says("-2: there are none such.", () -> {
            for (int step : NO_STEPS) {
                due("step " + step, Check.told(Tables.WIDE).auctionPrice(step, 0), -2);
            }
            for (int job : new int[] {-1, 4, 8, MIN, MAX}) {
                due("job " + job, Check.told(Tables.WIDE).auctionPrice(1, job), -2);
            }
            due("job 8 of 8", Tables.full().auctionPrice(1, 8), -2);
            due("no jobs", new NextBest().auctionPrice(1, 0), -2);
        });
    }

    private void auctionJob() {
        under("Promise 27: auctionJob");
        says("The JOB of a WORKER behind it.", () -> {
            holdersAre(Check.told(Tables.WIDE), 1, 3, 1);
            holdersAre(Check.told(Tables.WIDE), 99, 3, 1);
            holdersAre(Tables.full(), 1, 0, 1, 2, 3, 4, 5, 6);
        });
        says("NONE: none; -2: there are none such.", () -> {
            due("who waits", Check.told(Tables.STUCK).auctionJob(1, 0), NONE);
            due("who has", Check.told(Tables.STUCK).auctionJob(1, 1), 1);
            due("no jobs", Tables.jobless(1).auctionJob(1, 0), NONE);
            for (int step : NO_STEPS) {
                due("step " + step, Check.told(Tables.STUCK).auctionJob(step, 0), -2);
            }
            for (int worker : new int[] {-1, 2, 7, MIN, MAX}) {
                due("worker " + worker, Check.told(Tables.STUCK).auctionJob(1, worker), -2);
            }
            due("worker 7 of 7", Tables.full().auctionJob(1, 7), -2);
            due("without workers", new NextBest().auctionJob(1, 0), -2);
        });
    }
}
