/** Promises 13 to 19, 29, 35, 36, 39 and 40: what is forced, left out, how far a cost may go; prices, pay. */
final class SupposedSentences extends Sentences {
    private static final int[] NO_ONES = {-1, 8, 9, MIN, MAX};

    SupposedSentences(Check check, Quotes quotes) {
        super(check, quotes);
    }

    @Override
    public void all() {
        forced();
        without();
        stays();
        would();
        ever();
        price();
        pay();
        least();
        only();
        blocked();
        reduced();
        noughts();
    }

    /** A question about a worker and a job. */
    private interface Pair {
        long ask(NextBest x, int worker, int job);
    }

    /** Neither workers nor jobs beyond the ends of the tables there are. */
    private void noSuchPair(Pair pair) {
        String[] texts = {Tables.SQUARE, Tables.WIDE, "jobs 2;", ""};
        for (String text : texts) {
            NextBest x = Check.told(text);
            int workers = x.count(0);
            int jobs = x.count(1);
            due("worker " + workers + " of so many", pair.ask(x, workers, 0), NO);
            due("job " + jobs + " of so many", pair.ask(x, 0, jobs), NO);
            for (int one : NO_ONES) {
                due("worker " + one, pair.ask(x, one, 0), NO);
                due("job " + one, pair.ask(x, 0, one), NO);
            }
        }
        due("worker 7 of 7", pair.ask(Tables.full(), 7, 0), NO);
        due("job 8 of 8", pair.ask(Tables.full(), 0, 8), NO);
        due("no jobs", pair.ask(Tables.jobless(2), 0, 0), NO);
    }

    private void forced() {
        under("Promise 13: forced");
        says("The least SUM of ASSIGNMENTS in which a WORKER has a JOB.", () -> {
            long[][] due = {{6, 5, 6}, {5, 6, 9}, {6, 7, 5}};
            for (int worker = 0; worker < 3; worker++) {
                for (int job = 0; job < 3; job++) {
                    int at = worker;
                    int which = job;
                    leaves(Tables.SQUARE, "forced(" + worker + ", " + job + ")", x -> x.forced(at, which), due[worker][job]);
                }
            }
            due("the last of all", Tables.even(7, 8, -9999).forced(6, 7), -69993);
        });
        says("NO_SUCH: there are none (such).", () -> {
            due("NEVER", Check.told(Tables.WIDE).forced(0, 1), NO);
            due("none at all", Check.told(Tables.STUCK).forced(1, 1), NO);
            due("it leaves none for another", Check.told("jobs 2;worker 1,1;worker x,1;").forced(0, 1), NO);
            noSuchPair(NextBest::forced);
        });
    }

    private void without() {
        under("Promise 14: without");
        says("The least SUM of those in which the WORKER has not that JOB.", () -> {
            long[][] due = {{5, 6, 5}, {6, 5, 5}, {5, 5, 6}};
            for (int worker = 0; worker < 3; worker++) {
                for (int job = 0; job < 3; job++) {
                    int at = worker;
                    int which = job;
                    leaves(Tables.SQUARE, "without(" + worker + ", " + job + ")", x -> x.without(at, which), due[worker][job]);
                }
            }
            due("NEVER anyway", Check.told(Tables.WIDE).without(0, 1), -1);
            due("like sums", Tables.full().without(0, 0), 0);
        });
        says("NO_SUCH likewise.", () -> {
            due("the only one", Check.told("jobs 1;worker 4;").without(0, 0), NO);
            due("the only one open", Check.told("jobs 2;worker 4,x;").without(0, 0), NO);
            due("none at all", Check.told(Tables.STUCK).without(0, 0), NO);
            noSuchPair(NextBest::without);
        });
    }

    private void stays() {
        under("Promise 15: stays");
        says("What a COST would be at the least (what 0), at the most (what 1), all others as they are, "
                + "so that the first ASSIGNMENT of now were one of least SUM", () -> {
            NextBest x = Check.told(Tables.SQUARE);
            // the first is 102
            long[][] most = {{NO, 2, NO}, {3, NO, NO}, {NO, NO, 3}};
            long[][] least = {{3, NO, 2}, {NO, -1, 1}, {2, 0, NO}};
            for (int worker = 0; worker < 3; worker++) {
                for (int job = 0; job < 3; job++) {
                    due("stays(" + worker + ", " + job + ", 0)", x.stays(worker, job, 0), least[worker][job]);
                    due("stays(" + worker + ", " + job + ", 1)", x.stays(worker, job, 1), most[worker][job]);
                }
            }
            // at the bound it is still one of least sum, one beyond it is none
            x.sets(0, 1, 2);
            due("at the most", x.place(0102) < x.ties(0) ? 1 : 0, 1);
            x.sets(0, 1, 3);
            due("beyond the most", x.place(0102) < x.ties(0) ? 1 : 0, 0);
            NextBest y = Check.told(Tables.SQUARE);
            y.sets(0, 0, 3);
            due("at the least", y.place(0102) < y.ties(0) ? 1 : 0, 1);
            y.sets(0, 0, 2);
            due("below the least", y.place(0102) < y.ties(0) ? 1 : 0, 0);
            NextBest like = Check.told("jobs 2;worker 0,0;worker 0,0;");
            due("of like ones the first, had", like.stays(0, 0, 1), 0);
            due("of like ones the first, not had", like.stays(0, 1, 0), 0);
            due("of like ones the first, no most", like.stays(0, 1, 1), NO);
        });
        says("(whatever bounds there are of COSTS).", () -> {
            NextBest x = Check.told("jobs 2;worker 9999,-9999;worker -9999,9999;");
            due("above 9999", x.stays(0, 1, 1), 29997);
            due("above 9999", x.stays(1, 0, 1), 29997);
            due("below -9999", x.stays(0, 0, 0), -29997);
            due("below -9999", x.stays(1, 1, 0), -29997);
        });
        says("NO_SUCH: there is no such bound;", () -> {
            due("had, at the least", Check.told(Tables.SQUARE).stays(0, 1, 0), NO);
            due("not had, at the most", Check.told(Tables.SQUARE).stays(0, 0, 1), NO);
            due("there is no other one", Check.told("jobs 1;worker 4;").stays(0, 0, 1), NO);
            NextBest x = Check.told("jobs 2;worker 1,1;worker x,1;");
            due("it must be had", x.stays(0, 0, 1), NO);
            due("it can't be had", x.stays(0, 1, 0), NO);
        });
        says("no ASSIGNMENT, WORKER, JOB, what;", () -> {
            due("no assignment", Check.told(Tables.STUCK).stays(0, 1, 0), NO);
            due("no assignment", Check.told(Tables.STUCK).stays(0, 1, 1), NO);
            for (int what : new int[] {-1, 2, 3, MIN, MAX}) {
                due("had, what " + what, Check.told(Tables.SQUARE).stays(0, 1, what), NO);
                due("not had, what " + what, Check.told(Tables.SQUARE).stays(0, 0, what), NO);
            }
            noSuchPair((x, worker, job) -> x.stays(worker, job, 0));
            noSuchPair((x, worker, job) -> x.stays(worker, job, 1));
        });
        says("the COST is NEVER.", () -> {
            due("at the least", Check.told(Tables.WIDE).stays(0, 1, 0), NO);
            due("at the most", Check.told(Tables.WIDE).stays(0, 1, 1), NO);
        });
    }

    private void would() {
        under("Promise 16: would");
        says("The least SUM, if a COST were v (-9999 .. 9999).", () -> {
            NextBest x = Check.told(Tables.SQUARE);
            leaves(x, "the least v", () -> x.would(0, 0, -9999), -9997);
            leaves(x, "the greatest v", () -> x.would(0, 1, 9999), 6);
            leaves(x, "as it is", () -> x.would(0, 1, 1), 5);
            leaves(x, "less by 1", () -> x.would(0, 1, 0), 4);
            leaves(x, "as much as it stays", () -> x.would(0, 0, 3), 5);
            leaves(x, "less than it stays", () -> x.would(0, 0, 2), 4);
            NextBest stuck = Check.told(Tables.STUCK);
            leaves(stuck, "NEVER till now", () -> stuck.would(0, 0, 7), 3);
        });
        says("NO_SUCH: there is none (such).", () -> {
            NextBest x = Check.told(Tables.SQUARE);
            for (int v : new int[] {-10000, 10000, MIN, MAX}) {
                leaves(x, "v " + v, () -> x.would(0, 0, v), NO);
            }
            due("still none", Check.told(Tables.STUCK).would(0, 1, 7), NO);
            due("two for one", Check.told("jobs 1;worker 1;worker 1;").would(0, 0, 0), NO);
            noSuchPair((y, worker, job) -> y.would(worker, job, 0));
        });
    }

    private void ever() {
        under("Promise 17: ever");
        says("JOBS, as bits, that a WORKER has in any ASSIGNMENT of least SUM (0: there is none).", () -> {
            due("one", Check.told(Tables.SQUARE).ever(0), 2);
            // 10 (0), 12 (0), 02 (1), 20 (10)
            NextBest x = Check.told("jobs 3;worker 1,0,10;worker 0,x,0;");
            due("the same in both", x.ever(0), 2);
            due("another in each", x.ever(1), 5);
            due("all eight", Tables.full().ever(6), 255);
            due("stuck", Check.told(Tables.STUCK).ever(1), 0);
            due("no jobs", Tables.jobless(1).ever(0), 0);
        });
        says("-2: there is no such WORKER.", () -> {
            for (int worker : new int[] {-1, 3, 7, MIN, MAX}) {
                due("ever(" + worker + ")", Check.told(Tables.SQUARE).ever(worker), -2);
                due("stuck, ever(" + worker + ")", Check.told(Tables.STUCK).ever(worker), -2);
            }
            due("worker 7 of 7", Tables.full().ever(7), -2);
            due("without workers", new NextBest().ever(0), -2);
        });
    }

    private void price() {
        under("Promise 18: price");
        says("How much more the least SUM is without a JOB.", () -> {
            NextBest x = Check.told(Tables.WIDE);
            long[] due = {0, 3, 0, 4};
            for (int job = 0; job < 4; job++) {
                int which = job;
                leaves(x, "price(" + job + ")", () -> x.price(which), due[job]);
            }
            due("a job that is left over", Tables.full().price(7), 0);
            due("without workers", Check.told("jobs 1;").price(0), 0);
            due("far more", Check.told("jobs 2;worker 9999,-9999;").price(1), 19998);
        });
        says("NO_SUCH: there is none then, none now; no such JOB.", () -> {
            due("all are needed", Check.told(Tables.SQUARE).price(0), NO);
            due("none now", Check.told(Tables.STUCK).price(0), NO);
            for (int job : new int[] {-1, 4, 8, MIN, MAX}) {
                due("price(" + job + ")", Check.told(Tables.WIDE).price(job), NO);
                due("without workers, price(" + job + ")", Check.told("jobs 4;").price(job), NO);
            }
            due("job 8 of 8", Tables.full().price(8), NO);
            due("no jobs", new NextBest().price(0), NO);
        });
    }

    private void pay() {
        under("Promise 19: pay");
        says("PAY of a WORKER: the least SUM of all others without the JOB that the WORKER has in the first ASSIGNMENT "
                + "less their least SUM with all JOBS (without that WORKER at all).", () -> {
            NextBest x = Check.told(Tables.SQUARE);
            leaves(x, "pay(0)", () -> x.pay(0), 2);
            leaves(x, "pay(1)", () -> x.pay(1), 0);
            leaves(x, "pay(2)", () -> x.pay(2), 0);
            // 01 and 10 are alike: the first one counts
            NextBest like = Check.told("jobs 2;worker 4,1;worker 3,0;");
            due("of like ones the first", like.pay(0), 0);
            due("of like ones the first", like.pay(1), 3);
            due("without others", Check.told("jobs 2;worker 4,7;").pay(0), 0);
            due("the last of seven", Tables.full().pay(6), 0);
        });
        says("NO_SUCH: there is none such, none now; no such WORKER.", () -> {
            due("none now", Check.told(Tables.STUCK).pay(0), NO);
            due("none now, the others have one", Check.told("jobs 2;worker 1,1;worker x,x;").pay(1), NO);
            due("no jobs", Tables.jobless(1).pay(0), NO);
            for (int worker : new int[] {-1, 3, 7, MIN, MAX}) {
                due("pay(" + worker + ")", Check.told(Tables.SQUARE).pay(worker), NO);
            }
            due("worker 7 of 7", Tables.full().pay(7), NO);
            due("without workers", new NextBest().pay(0), NO);
        });
    }

    private void least() {
        under("Promise 29: least");
        says("Of COSTS that are not NEVER of a WORKER (what 0), of a JOB (what 1) the least.", () -> {
            NextBest x = Check.told(Tables.WIDE);
            due("worker 0", x.least(0, 0), 1);
            due("worker 1", x.least(1, 0), -2);
            long[] due = {5, -2, 1, 1};
            for (int job = 0; job < 4; job++) {
                due("job " + job, x.least(job, 1), due[job]);
            }
            due("the last worker", Tables.full().least(6, 0), 0);
            due("the last job", Tables.full().least(7, 1), 0);
            due("the least there can be", Tables.even(1, 1, -9999).least(0, 0), -9999);
            due("the greatest there can be", Tables.even(1, 1, 9999).least(0, 1), 9999);
        });
        says("NO_SUCH: there are none (such).", () -> {
            NextBest x = Check.told(Tables.WIDE);
            for (int one : NO_ONES) {
                due("worker " + one, x.least(one, 0), NO);
                due("job " + one, x.least(one, 1), NO);
            }
            due("worker 2 of 2", x.least(2, 0), NO);
            due("job 4 of 4", x.least(4, 1), NO);
            due("worker 7 of 7", Tables.full().least(7, 0), NO);
            due("job 8 of 8", Tables.full().least(8, 1), NO);
            for (int what : new int[] {-1, 2, MIN, MAX}) {
                due("what " + what, x.least(0, what), NO);
            }
            due("all NEVER, a worker", Check.told("jobs 2;worker x,x;worker 1,x;").least(0, 0), NO);
            due("all NEVER, a job", Check.told("jobs 2;worker x,x;worker 1,x;").least(1, 1), NO);
            due("no workers", Check.told("jobs 1;").least(0, 1), NO);
            due("no jobs", Tables.jobless(1).least(0, 0), NO);
        });
    }

    private void only() {
        under("Promise 35: only");
        says("The least SUM of ASSIGNMENTS by JOBS of a set alone (bits).", () -> {
            NextBest x = Check.told(Tables.WIDE);
            leaves(x, "all", () -> x.only(15), -1);
            leaves(x, "just as many", () -> x.only(10), -1);
            leaves(x, "just as many", () -> x.only(12), 2);
            leaves(x, "just as many", () -> x.only(3), 3);
            leaves(x, "just as many", () -> x.only(5), 6);
            leaves(x, "more", () -> x.only(13), 2);
            due("all eight", Tables.full().only(255), 0);
            due("the last seven", Tables.full().only(254), 0);
            due("without workers", new NextBest().only(0), 0);
            due("without workers, no job of two", Check.told("jobs 2;").only(0), 0);
            due("without workers, all of two", Check.told("jobs 2;").only(3), 0);
        });
        says("NO_SUCH: there are none (such).", () -> {
            for (int set : new int[] {0, 1, 2, 4, 8, 6, 9, 16, 17, 31, 255, 256, -1, MIN, MAX}) {
                leaves(Tables.WIDE, "only(" + set + ")", x -> x.only(set), NO);
            }
            due("six for seven", Tables.full().only(63), NO);
            due("a ninth job", Tables.full().only(256), NO);
            due("a ninth job and all", Tables.full().only(511), NO);
            due("none at all", Check.told(Tables.STUCK).only(3), NO);
            due("without workers, no such job", Check.told("jobs 2;").only(4), NO);
            due("without workers, below 0", new NextBest().only(-1), NO);
        });
    }

    private void blocked() {
        under("Promise 36: blocked");
        says("The least SET of WORKERS (bits, as a number) that have fewer JOBS together, "
                + "which are not NEVER for all of them, than they are.", () -> {
            due("one without", Check.told("jobs 1;worker x;").blocked(), 1);
            due("two for one", Check.told(Tables.STUCK).blocked(), 3);
            due("two for one ahead of one for none", Check.told("jobs 2;worker 1,x;worker 1,x;worker x,x;").blocked(), 3);
            due("the last one", Check.told("jobs 2;worker 1,1;worker 1,1;worker x,x;").blocked(), 4);
            due("three for two", Tables.even(3, 2, 0).blocked(), 7);
            due("seven for six", Tables.even(7, 6, 0).blocked(), 127);
            due("the seventh", Check.told("jobs 7;" + "worker 1,1,1,1,1,1,1;".repeat(6) + "worker x,x,x,x,x,x,x;").blocked(), 64);
            due("no jobs", Tables.jobless(7).blocked(), 1);
        });
        says("0: there is none.", () -> {
            due("as many jobs as workers", Check.told("jobs 2;worker 1,x;worker x,1;").blocked(), 0);
            due("not the same for all", Check.told(Tables.WIDE).blocked(), 0);
            due("seven for seven", Tables.even(7, 7, 0).blocked(), 0);
            due("full", Tables.full().blocked(), 0);
            due("without workers", new NextBest().blocked(), 0);
        });
    }

    private void reduced() {
        under("Promise 39: reduced");
        says("REDUCED: each WORKER's COSTS less the least of them, then of each JOB what is so less the least of it (NEVER aside).", () -> {
            // less 1 and -2: 4 x x 0, x 0 3 x
            long[][] due = {{0, NEVER, NEVER, 0}, {NEVER, 0, 0, NEVER}};
            for (int worker = 0; worker < 2; worker++) {
                for (int job = 0; job < 4; job++) {
                    int at = worker;
                    int which = job;
                    leaves(Tables.WIDE, "reduced(" + worker + ", " + job + ")", x -> x.reduced(at, which), due[worker][job]);
                }
            }
            NextBest far = Check.told("jobs 2;worker -9999,9999;worker 0,0;");
            due("as much as can be", far.reduced(0, 1), 19998);
            due("the least of its job", far.reduced(1, 1), 0);
            due("worker 0 has the least of its job", Check.told("jobs 2;worker 0,5;worker 0,9;").reduced(1, 1), 4);
            NextBest aside = Check.told("jobs 2;worker x,x;worker 3,8;worker 4,5;");
            due("a worker all NEVER is aside", aside.reduced(1, 1), 4);
            due("a worker all NEVER is aside", aside.reduced(2, 1), 0);
        });
        says("NEVER; NO_SUCH: there are none such.", () -> {
            due("NEVER", Check.told(Tables.WIDE).reduced(0, 1), NEVER);
            due("a worker all NEVER", Check.told("jobs 1;worker x;worker 1;").reduced(0, 0), NEVER);
            noSuchPair(NextBest::reduced);
        });
    }

    private void noughts() {
        under("Promise 40: noughts");
        says("How many of these are 0.", () -> {
            due("ordinary", Check.told(Tables.SQUARE).noughts(), 5);
            due("NEVER is none", Check.told("jobs 3;worker 5,x,9;").noughts(), 2);
            due("all NEVER", Check.told("jobs 2;worker x,x;worker x,x;").noughts(), 0);
            due("all", Tables.full().noughts(), 56);
            due("without workers", Check.told("jobs 8;").noughts(), 0);
            due("without jobs", Tables.jobless(7).noughts(), 0);
            due("new", new NextBest().noughts(), 0);
        });
    }
}
