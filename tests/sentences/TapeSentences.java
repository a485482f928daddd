/** What an object is, and promises 1 to 7: the tape, the table, single costs. */
final class TapeSentences extends Sentences {
    TapeSentences(Check check, Quotes quotes) {
        super(check, quotes);
    }

    @Override
    public void all() {
        under("What it is");
        says("An object is used for at most 512 calls after it has been made;", this::manyCalls);
        under("Terms");
        says("The constants: NO_SUCH = Long.MIN_VALUE:", () -> due("NO_SUCH", NO, 1L << 63));
        says("What is told for none such where numbers may be below 0.", this::noSuch);
        says("NEVER = Long.MAX_VALUE:", () -> due("NEVER", NEVER, -1L >>> 1));
        says("What a COST is told as that is none.", this::never);
        under("Promise 1: A new object");
        says("No WORKERS, no JOBS.", this::newObject);
        feed();
        end();
        table();
        fault();
        count();
        cost();
    }

    private void manyCalls() {
        NextBest x = new NextBest();
        due("comes", x.comes(1, 0), 0);
        due("comes", x.comes(0, 0), 0);
        for (int call = 2; call < MOST_CALLS - 1; call++) {
            due("sets, call " + call, x.sets(0, 0, call), 1);
        }
        due("sum, the last call", x.sum(0), MOST_CALLS - 2);
        NextBest y = new NextBest();
        for (int call = 0; call < MOST_CALLS; call += 2) {
            due("comes, call " + call, y.comes(1, 3), 0);
            due("undo, call " + call, y.undo(), 0);
        }
        NextBest z = new NextBest();
        for (int call = 0; call < MOST_CALLS; call++) {
            due("feed, call " + call, z.feed(0, 0, 0, 0, 0), call < 30 ? 20 * (call + 1) : NONE);
        }
    }

    private void noSuch() {
        NextBest x = new NextBest();
        due("cost", x.cost(0, 0), NO);
        due("sum", x.sum(-1), NO);
        due("price", x.price(0), NO);
        due("move", x.move(-1, 0), NO);
    }

    private void never() {
        NextBest x = Check.told("jobs 2;worker x,9999;");
        due("x", x.cost(0, 0), NEVER);
        x.bars(0, 1);
        due("barred", x.cost(0, 1), NEVER);
    }

    private void newObject() {
        NextBest x = new NextBest();
        due("workers", x.count(0), 0);
        due("jobs", x.count(1), 0);
        due("costs that are NEVER", x.count(2), 0);
        due("assignments", x.count(3), 1);
        due("acts", x.count(4), 0);
        due("bytes", x.count(5), 0);
        due("cost(0, 0)", x.cost(0, 0), NO);
        due("goes(0, 0)", x.goes(0, 0), -2);
        due("goes(0, 1)", x.goes(0, 1), -2);
        due("undo", x.undo(), NONE);
        due("table", x.table(), 0);
    }

    private void feed() {
        under("Promise 2: feed");
        says("Twenty bytes come behind the TAPE, four of each number, the highest first: how many it has;", () -> {
            NextBest x = new NextBest();
            // "jobs 1;w" "orker -1" "234;", then "jobs 1;" and blanks behind what was there
            due("feed", x.feed(0x6a6f6273, 0x20313b77, 0x6f726b65, 0x72202d31, 0x3233343b), 20);
            due("feed", x.feed(0x776f726b, 0x65722037, 0x3b202020, 0x20202020, 0x20202020), 40);
            due("table", x.table(), 2);
            due("cost", x.cost(0, 0), -1234);
            due("cost", x.cost(1, 0), 7);
            due("feed", x.feed(0x20200aff, 0, 0, 0, 0), 20);
            due("table", x.table(), -4);
            due("the lowest byte comes last", x.fault(1), 3);
            x.feed(-1, 0, 0, 0, 0);
            x.table();
            due("bytes of 255", x.fault(1), 0);
        });
        says("NONE, and none come, if it would have more than 600.", () -> {
            NextBest x = new NextBest();
            for (int many = 20; many <= 600; many += 20) {
                due("feed to " + many, x.feed(0x20202020, 0x20202020, 0x20202020, 0x20202020, 0x2020203f), many);
            }
            leaves(x, "feed to 620", () -> x.feed(0, 0, 0, 0, 0), NONE);
            x.end(581);
            leaves(x, "feed to 601", () -> x.feed(0, 0, 0, 0, 0), NONE);
            x.end(599);
            leaves(x, "feed to 619", () -> x.feed(0, 0, 0, 0, 0), NONE);
            due("end", x.end(580), 580);
            due("feed to 600", x.feed(0x20202020, 0x20202020, 0x20202020, 0x20202020, 0x20202020), 600);
            due("table", x.table(), -4);
            due("the first ? is still there", x.fault(1), 19);
            due("bytes", x.count(5), 0);
            due("room again", x.feed(0, 0, 0, 0, 0), 20);
        });
    }

    private void end() {
        under("Promise 3: end");
        says("The TAPE has its first n bytes alone: n;", () -> {
            NextBest x = new NextBest();
            due("end(0) of none", x.end(0), 0);
            Check.lay(x, "jobs 3;worker 4,5,6;!");
            due("end(20)", x.end(20), 20);
            due("end(20) again", x.end(20), 20);
            due("bytes", x.count(5), 20);
            due("end(7)", x.end(7), 7);
            due("feed goes on behind", x.feed(0x776f726b, 0x65722031, 0x2c322c33, 0x3b202020, 0x20202020), 27);
            due("table", x.table(), 1);
            due("cost", x.cost(0, 2), 3);
            Check.lay(x, "jobs 3;");
            due("end(0)", x.end(0), 0);
            due("bytes", x.count(5), 0);
            due("table of none", x.table(), 0);
        });
        says("NONE, and nothing happens, if it has not so many, or n is below 0.", () -> {
            NextBest x = new NextBest();
            leaves(x, "end(1) of none", () -> x.end(1), NONE);
            leaves(x, "end(-1) of none", () -> x.end(-1), NONE);
            Check.lay(x, "jobs 2;");
            for (int n : new int[] {8, 20, 600, 601, MAX, -1, -7, MIN}) {
                leaves(x, "end(" + n + ")", () -> x.end(n), NONE);
            }
            due("table", x.table(), 0);
            due("jobs", x.count(1), 2);
            NextBest full = new NextBest();
            for (int i = 0; i < 30; i++) {
                full.feed(0, 0, 0, 0, 0);
            }
            leaves(full, "end(601) of 600", () -> full.end(601), NONE);
            due("end(600) of 600", full.end(600), 600);
        });
    }

    private void table() {
        under("Promise 4: table");
        says("The TAPE (empty then) tells the TABLE", () -> {
            NextBest x = Check.told(Tables.SQUARE);
            due("bytes", x.count(5), 0);
            due("read again, none is told", x.table(), 0);
            due("jobs of an empty tape", x.count(1), 0);
            due("a fault", Check.tell(x, "jobs"), -4);
            due("bytes behind a fault", x.count(5), 0);
        });
        says("(in place of another; nothing to UNDO then):", () -> {
            NextBest x = Check.told(Tables.SQUARE);
            x.sets(0, 0, 9);
            x.comes(0, 1);
            due("table", Check.tell(x, "jobs 2;worker 7,8;"), 1);
            due("workers", x.count(0), 1);
            due("jobs", x.count(1), 2);
            due("assignments", x.count(3), 2);
            due("sum", x.sum(0), 7);
            due("cost", x.cost(0, 1), 8);
            due("no such worker any more", x.cost(1, 0), NO);
            due("acts", x.count(4), 0);
            leaves(x, "undo", x::undo, NONE);
        });
        says("how many WORKERS.", () -> {
            NextBest x = new NextBest();
            due("none", x.table(), 0);
            due("jobs alone", Check.tell(x, "jobs 8;"), 0);
            due("one", Check.tell(x, "jobs 1;worker 1;"), 1);
            due("seven", Check.tell(x, "jobs 1;" + "worker 1;".repeat(7)), 7);
        });
        says("-4: a FAULT (all else stays).", () -> {
            NextBest x = Check.told(Tables.SQUARE);
            x.sets(0, 0, 9);
            x.bars(2, 2);
            for (String text : new String[] {"?", "jobs 9;", "jobs 1;worker 1,2;", "jobs 2;worker 1;", "jobs 4;worker 1,2,3,4;worker"}) {
                Check.lay(x, text);
                due("table of '" + text + "'", x.table(), -4);
                due("workers", x.count(0), 3);
                due("jobs", x.count(1), 3);
                due("never", x.count(2), 1);
                due("acts", x.count(4), 2);
                due("cost", x.cost(0, 0), 9);
                due("sum", x.sum(0), 6);
            }
            due("undo", x.undo(), 1);
            due("undo", x.undo(), 0);
            due("sum", x.sum(0), 5);
        });
    }

    private void fault() {
        under("Promise 5: fault");
        says("Of the latest table(),", () -> {
            NextBest x = Check.told("jobs 2;worker 1;");
            due("fault", x.fault(0), 4);
            Check.lay(x, "jobs 9;");
            due("not read yet", x.fault(0), 4);
            x.end(0);
            due("cut off", x.fault(1), 15);
            x.sets(0, 0, 1);
            x.comes(1, 1);
            x.undo();
            due("behind acts", x.fault(0), 4);
            Check.tell(x, "jobs 9;");
            due("the next one's", x.fault(0), 2);
            due("the next one's", x.fault(1), 5);
        });
        says("what 0: its FAULT, 0 without,", () -> {
            NextBest x = new NextBest();
            due("ahead of any", x.fault(0), 0);
            Check.tell(x, "?");
            due("with one", x.fault(0), 1);
            Check.tell(x, "jobs 1;");
            due("without", x.fault(0), 0);
        });
        says("1: its place (NONE without).", () -> {
            NextBest x = Check.told("?");
            due("place 0", x.fault(1), 0);
            x.table();
            due("without", x.fault(1), NONE);
        });
        says("NONE for another what, and ahead of any (what 1).", () -> {
            NextBest x = new NextBest();
            due("ahead of any", x.fault(1), NONE);
            for (int what : new int[] {-1, 2, 3, MIN, MAX}) {
                due("ahead of any, what " + what, x.fault(what), NONE);
            }
            Check.tell(x, "jobs 1;?");
            for (int what : new int[] {-1, 2, 3, MIN, MAX}) {
                due("with one, what " + what, x.fault(what), NONE);
            }
        });
    }

    private void countIs(String which, NextBest x, long... due) {
        for (int what = 0; what < due.length; what++) {
            due(which + ", count(" + what + ")", x.count(what), due[what]);
        }
    }

    private void count() {
        under("Promise 6: count");
        says("0 WORKERS, 1 JOBS, 2 COSTS that are NEVER, 3 ASSIGNMENTS, 4 acts that can be undone, 5 bytes of the TAPE.", () -> {
            countIs("new", new NextBest(), 0, 0, 0, 1, 0, 0);
            countIs("jobs alone", Check.told("jobs 8;"), 0, 8, 0, 1, 0, 0);
            countIs("workers alone", Tables.jobless(7), 7, 0, 0, 0, 7, 0);
            countIs("more workers than jobs", Check.told("jobs 1;worker 1;worker x;"), 2, 1, 1, 0, 0, 0);
            countIs("stuck", Check.told(Tables.STUCK), 2, 2, 2, 0, 0, 0);
            countIs("full", Tables.full(), 7, 8, 0, 40320, 10, 0);
            NextBest never = Check.told("jobs 8;" + "worker x,x,x,x,x,x,x,x;".repeat(7));
            Check.lay(never, "?");
            countIs("all NEVER", never, 7, 8, 56, 0, 0, 1);
            never.goes(7, 1);
            countIs("a job gone", never, 7, 7, 49, 0, 1, 1);
        });
        says("NONE for others.", () -> {
            NextBest x = Check.told(Tables.WIDE);
            for (int what : new int[] {-1, 6, 7, MIN, MAX}) {
                due("count(" + what + ")", x.count(what), NONE);
            }
        });
    }

    private void cost() {
        under("Promise 7: cost");
        says("The COST of a WORKER for a JOB;", () -> {
            NextBest x = Check.told(Tables.WIDE);
            due("the first", x.cost(0, 0), 5);
            due("the last of a worker", x.cost(0, 3), 1);
            due("below 0", x.cost(1, 1), -2);
        });
        says("NEVER; NO_SUCH.", () -> {
            NextBest x = Check.told(Tables.WIDE);
            due("NEVER", x.cost(0, 1), NEVER);
            due("NEVER, the last", x.cost(1, 3), NEVER);
            int[][] none = {{-1, 0}, {2, 0}, {7, 0}, {MIN, 0}, {MAX, 0}, {0, -1}, {0, 4}, {0, 8}, {1, MIN}, {1, MAX}, {2, 4}, {-1, -1}};
            for (int[] at : none) {
                leaves(Tables.WIDE, "cost(" + at[0] + ", " + at[1] + ")", y -> y.cost(at[0], at[1]), NO);
            }
            due("worker 7 of 7", Tables.full().cost(7, 0), NO);
            due("job 8 of 8", Tables.full().cost(6, 8), NO);
            due("the last of all", Tables.full().cost(6, 7), 0);
            due("no jobs", Tables.jobless(1).cost(0, 0), NO);
        });
    }
}
