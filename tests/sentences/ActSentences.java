import java.util.ArrayDeque;
import java.util.Deque;

/** Terms IV, and promises 41 to 47: what changes, what is refused, what can be undone. */
final class ActSentences extends Sentences {
    private static final int[] NO_VALUES = {-10000, 10000, MIN, MAX};

    ActSentences(Check check, Quotes quotes) {
        super(check, quotes);
    }

    @Override
    public void all() {
        under("Terms");
        says("IV. Acts that changed something can be undone, the latest first,", this::latestFirst);
        says("10 at the most.", this::tenAtTheMost);
        says("-2 (where nothing else is told): there are none such (WORKER, JOB, what, numbers out of their bounds);",
                this::noneSuch);
        says("ahead of -5, NONE.", this::aheadOfOthers);
        sets();
        bars();
        tilts();
        comes();
        goes();
        turn();
        undo();
    }

    private void latestFirst() {
        NextBest x = Check.told(Tables.WIDE);
        x.sets(0, 0, 6);
        x.bars(0, 0);
        x.sets(0, 0, 7);
        for (int i = 0; i < 2; i++) {
            leaves(x, "sets what it is", () -> x.sets(0, 0, 7), 0);
            leaves(x, "bars what is so", () -> x.bars(0, 1), 0);
            leaves(x, "tilts by 0", () -> x.tilts(0, 0, 0), 2);
            leaves(x, "turn of one", () -> x.turn(1, 1), 0);
            leaves(x, "a refused one", () -> x.sets(0, 0, 10000), -2);
        }
        due("undo", x.undo(), 2);
        due("cost", x.cost(0, 0), NEVER);
        due("undo", x.undo(), 1);
        due("cost", x.cost(0, 0), 6);
        due("undo", x.undo(), 0);
        due("cost", x.cost(0, 0), 5);
    }

    private void tenAtTheMost() {
        for (int acts : new int[] {9, 10, 11, 20, 21, 35}) {
            NextBest x = Check.told("jobs 1;worker 0;");
            for (int v = 1; v <= acts; v++) {
                x.sets(0, 0, v);
                due("behind act " + v, x.count(4), Math.min(v, 10));
            }
            for (int left = Math.min(acts, 10) - 1; left >= 0; left--) {
                due("undo of " + acts, x.undo(), left);
                due("cost", x.cost(0, 0), acts - Math.min(acts, 10) + left);
            }
            leaves(x, "undo of none", x::undo, NONE);
        }
        // what changes nothing does not push out the eldest
        NextBest x = Check.told("jobs 1;worker 0;");
        for (int v = 1; v <= 10; v++) {
            x.sets(0, 0, v);
        }
        x.sets(0, 0, 10);
        x.tilts(0, 0, 1);
        x.turn(0, 0);
        x.comes(0, 10000);
        for (int left = 9; left >= 0; left--) {
            due("undo", x.undo(), left);
        }
        due("as at first", x.cost(0, 0), 0);
        undoneAndOn();
    }

    /** Acts and undoing by turns, so that the room for ten is gone through again and again. */
    private void undoneAndOn() {
        NextBest x = Check.told("jobs 1;worker 0;");
        Deque<Long> kept = new ArrayDeque<>();
        long now = 0;
        for (int i = 1; i <= 100; i++) {
            if (i % 7 == 3 || i % 7 == 4 || i > 60 && i % 7 == 5) {
                boolean any = !kept.isEmpty();
                now = any ? kept.removeLast() : now;
                due("undo " + i, x.undo(), any ? kept.size() : NONE);
            } else {
                kept.addLast(now);
                if (kept.size() > 10) {
                    kept.removeFirst();
                }
                now = i;
                due("sets " + i, x.sets(0, 0, i), 1);
            }
            due("cost behind " + i, x.cost(0, 0), now);
            due("acts behind " + i, x.count(4), kept.size());
        }
    }

    private void noneSuch() {
        NextBest x = Check.told(Tables.WIDE);
        leaves(x, "a worker", () -> x.sets(2, 0, 0), -2);
        leaves(x, "a job", () -> x.sets(0, 4, 0), -2);
        leaves(x, "a what", () -> x.tilts(0, 1, 2), -2);
        leaves(x, "a number", () -> x.comes(0, 10000), -2);
        leaves(x, "a step", () -> x.auctionPrice(100, 0), -2);
        leaves(x, "a k", () -> x.ties(200), -2);
        leaves(x, "an n", () -> x.often(0, 0, 201), -2);
        leaves(x, "a rule", () -> x.firstJob(4, 0, 0), -2);
    }

    private void aheadOfOthers() {
        NextBest x = Tables.full();
        leaves(x, "comes, -5 and what", () -> x.comes(2, 0), -2);
        leaves(x, "comes, -5 and v", () -> x.comes(0, 10000), -2);
        leaves(x, "comes, -5 and v", () -> x.comes(1, -10000), -2);
        leaves(x, "tilts, -5 and what", () -> x.tilts(0, 10000, 2), -2);
        leaves(x, "tilts, -5 and one", () -> x.tilts(7, 10000, 0), -2);
        leaves(x, "tilts, -5 and one", () -> x.tilts(8, 10000, 1), -2);
        NextBest stuck = Check.told(Tables.STUCK);
        leaves(stuck, "job, NONE and worker", () -> stuck.job(0, 2), -2);
        leaves(stuck, "job, NONE and k", () -> stuck.job(200, 0), -2);
        leaves(stuck, "ties, NONE and k", () -> stuck.ties(-1), -2);
        leaves(stuck, "firstJob, NONE and rule", () -> stuck.firstJob(4, 0, 0), -2);
        leaves(stuck, "firstJob, NONE and worker", () -> stuck.firstJob(0, 0, 2), -2);
        leaves(stuck, "apart, NONE and l", () -> stuck.apart(0, 200), -2);
        leaves(stuck, "rounds, NONE and what", () -> stuck.rounds(0, 0, 4), -2);
        leaves(stuck, "auctionJob, NONE and step", () -> stuck.auctionJob(0, 0), -2);
        leaves(stuck, "greedyJob, NONE and worker", () -> stuck.greedyJob(2), -2);
    }

    private void noSuchPlaces(String text, java.util.function.ToLongBiFunction<NextBest, int[]> act) {
        NextBest x = Check.told(text);
        int workers = x.count(0);
        int jobs = x.count(1);
        for (int[] at : new int[][] {{workers, 0}, {0, jobs}, {-1, 0}, {0, -1}, {7, 0}, {0, 8}, {MIN, 0}, {0, MIN}, {MAX, 0}, {0, MAX}}) {
            leaves(x, "worker " + at[0] + ", job " + at[1], () -> act.applyAsLong(x, at), -2);
        }
    }

    private void sets() {
        under("Promise 41: sets");
        says("A COST is v (-9999 .. 9999): 1 if it was another one, else 0.", () -> {
            NextBest x = Check.told(Tables.WIDE);
            for (int v : new int[] {9999, -9999, 0, 6}) {
                due("sets to " + v, x.sets(0, 0, v), 1);
                due("cost", x.cost(0, 0), v);
                leaves(x, "sets again to " + v, () -> x.sets(0, 0, v), 0);
            }
            due("NEVER till now", x.sets(1, 3, 0), 1);
            due("cost", x.cost(1, 3), 0);
            due("its neighbours stay", x.cost(1, 2), 1);
            due("never", x.count(2), 3);
            due("acts", x.count(4), 5);
            NextBest most = Tables.full();
            due("the last of all", most.sets(6, 7, -1), 1);
            due("its sum", most.sum(0), -1);
        });
        says("-2: there are none such.", () -> {
            NextBest x = Check.told(Tables.WIDE);
            for (int v : NO_VALUES) {
                leaves(x, "sets to " + v, () -> x.sets(0, 0, v), -2);
            }
            noSuchPlaces(Tables.WIDE, (y, at) -> y.sets(at[0], at[1], 5));
            noSuchPlaces("jobs 2;", (y, at) -> y.sets(at[0], at[1], 5));
            noSuchPlaces("", (y, at) -> y.sets(at[0], at[1], 5));
        });
    }

    private void bars() {
        under("Promise 42: bars");
        says("A COST is NEVER: 1, 0;", () -> {
            NextBest x = Check.told(Tables.WIDE);
            due("bars", x.bars(0, 3), 1);
            due("cost", x.cost(0, 3), NEVER);
            due("sum", x.sum(0), 3);
            leaves(x, "again", () -> x.bars(0, 3), 0);
            leaves(x, "NEVER till now", () -> x.bars(1, 3), 0);
            due("the last one open", x.bars(0, 0), 1);
            due("assignments", x.count(3), 0);
            due("acts", x.count(4), 2);
            due("undo", x.undo(), 1);
            due("assignments", x.count(3), 2);
        });
        says("-2 likewise.", () -> {
            noSuchPlaces(Tables.WIDE, (y, at) -> y.bars(at[0], at[1]));
            noSuchPlaces("jobs 2;", (y, at) -> y.bars(at[0], at[1]));
            noSuchPlaces("", (y, at) -> y.bars(at[0], at[1]));
        });
    }

    private void tilts() {
        under("Promise 43: tilts");
        says("All COSTS of a WORKER (what 0), of a JOB (what 1) that are not NEVER are more by v: how many.", () -> {
            NextBest x = Check.told(Tables.WIDE);
            due("a worker", x.tilts(0, 10, 0), 2);
            due("cost", x.cost(0, 0), 15);
            due("cost", x.cost(0, 3), 11);
            due("NEVER stays", x.cost(0, 1), NEVER);
            due("the other stays", x.cost(1, 2), 1);
            due("a job", x.tilts(3, -20, 1), 1);
            due("cost", x.cost(0, 3), -9);
            leaves(x, "by 0", () -> x.tilts(0, 0, 0), 2);
            due("acts", x.count(4), 2);
            NextBest never = Check.told("jobs 2;worker x,x;worker 1,x;");
            leaves(never, "a worker all NEVER", () -> never.tilts(0, 5, 0), 0);
            leaves(never, "a job all NEVER", () -> never.tilts(1, MAX, 1), 0);
            due("all eight", Tables.full().tilts(6, 1, 0), 8);
            due("all seven", Tables.full().tilts(7, 1, 1), 7);
            NextBest jobs = Check.told("jobs 2;");
            leaves(jobs, "a job without workers", () -> jobs.tilts(1, 5, 1), 0);
            NextBest workers = Tables.jobless(1);
            leaves(workers, "a worker without jobs", () -> workers.tilts(0, 5, 0), 0);
        });
        says("-5: one would be out of -9999 .. 9999;", () -> {
            NextBest x = Check.told("jobs 2;worker 3,-3;worker 9999,-9999;");
            leaves(x, "the one above", () -> x.tilts(0, 9997, 0), -5);
            leaves(x, "the other below", () -> x.tilts(0, -9997, 0), -5);
            leaves(x, "at the greatest", () -> x.tilts(0, 1, 1), -5);
            leaves(x, "at the least", () -> x.tilts(1, -1, 1), -5);
            leaves(x, "far out", () -> x.tilts(0, MAX, 0), -5);
            leaves(x, "far out", () -> x.tilts(0, MIN, 0), -5);
            due("just within", x.tilts(0, 9996, 0), 2);
            due("cost", x.cost(0, 0), 9999);
            due("cost", x.cost(0, 1), 9993);
            due("just within", x.tilts(0, -19992, 0), 2);
            due("cost", x.cost(0, 1), -9999);
            NextBest across = Tables.even(7, 8, -9999);
            due("from the least to the greatest", across.tilts(0, 19998, 0), 8);
            due("cost", across.cost(0, 7), 9999);
            leaves(across, "one more", () -> across.tilts(1, 19999, 0), -5);
        });
        says("-2: there are none such.", () -> {
            for (int what : new int[] {-1, 2, 3, MIN, MAX}) {
                leaves(Tables.WIDE, "what " + what, x -> x.tilts(0, 1, what), -2);
            }
            for (int one : new int[] {-1, 4, 8, MIN, MAX}) {
                leaves(Tables.WIDE, "worker " + one, x -> x.tilts(one, 1, 0), -2);
                leaves(Tables.WIDE, "job " + one, x -> x.tilts(one, 1, 1), -2);
            }
            leaves(Tables.WIDE, "worker 2 of 2", x -> x.tilts(2, 0, 0), -2);
            NextBest none = new NextBest();
            leaves(none, "no worker", () -> none.tilts(0, 0, 0), -2);
            leaves(none, "no job", () -> none.tilts(0, 0, 1), -2);
        });
    }

    private void comes() {
        under("Promise 44: comes");
        says("A WORKER (what 0), a JOB (what 1) comes behind all, all of its COSTS v (-9999 .. 9999): its number.", () -> {
            NextBest x = Check.told(Tables.WIDE);
            due("a worker", x.comes(0, -9999), 2);
            due("a job", x.comes(1, 9999), 4);
            due("cost", x.cost(2, 0), -9999);
            due("cost", x.cost(2, 4), 9999);
            due("cost", x.cost(0, 4), 9999);
            due("the others stay", x.cost(0, 3), 1);
            due("acts", x.count(4), 2);
            NextBest none = new NextBest();
            due("the first worker", none.comes(0, 4), 0);
            due("assignments", none.count(3), 0);
            due("the first job", none.comes(1, 5), 0);
            due("sum", none.sum(0), 5);
            NextBest most = new NextBest();
            for (int number = 0; number < 8; number++) {
                due("job " + number, most.comes(1, 0), number);
            }
            for (int number = 0; number < 7; number++) {
                due("worker " + number, most.comes(0, 0), number);
            }
        });
        says("-5: there are 7, 8 of them;", () -> {
            NextBest x = Tables.full();
            leaves(x, "an 8th worker", () -> x.comes(0, 0), -5);
            leaves(x, "a 9th job", () -> x.comes(1, 0), -5);
            NextBest workers = Tables.jobless(7);
            leaves(workers, "an 8th worker", () -> workers.comes(0, 0), -5);
            due("the first job", workers.comes(1, 0), 0);
            NextBest jobs = Check.told("jobs 8;");
            leaves(jobs, "a 9th job", () -> jobs.comes(1, 0), -5);
            due("the first worker", jobs.comes(0, 0), 0);
            x.goes(0, 0);
            due("a 7th again", x.comes(0, 3), 6);
            leaves(x, "an 8th again", () -> x.comes(0, 3), -5);
        });
        says("-2: there are none such.", () -> {
            for (int what : new int[] {-1, 2, 3, MIN, MAX}) {
                leaves(Tables.WIDE, "what " + what, x -> x.comes(what, 0), -2);
            }
            for (int v : NO_VALUES) {
                leaves(Tables.WIDE, "a worker of " + v, x -> x.comes(0, v), -2);
                leaves(Tables.WIDE, "a job of " + v, x -> x.comes(1, v), -2);
            }
        });
    }

    private void goes() {
        under("Promise 45: goes");
        says("A WORKER (what 0), a JOB (what 1) goes, those behind have numbers less by 1: how many there are.", () -> {
            NextBest x = Check.told(Tables.SQUARE);
            due("worker 0", x.goes(0, 0), 2);
            due("worker 1 is 0", x.cost(0, 0), 2);
            due("worker 2 is 1", x.cost(1, 0), 3);
            due("no worker 2", x.cost(2, 0), NO);
            due("the last job", x.goes(2, 1), 2);
            due("job 0 stays", x.cost(0, 0), 2);
            due("no job 2", x.cost(0, 2), NO);
            due("job 0", x.goes(0, 1), 1);
            due("job 1 is 0", x.cost(0, 0), 0);
            due("job 1 is 0", x.cost(1, 0), 2);
            due("the last worker", x.goes(1, 0), 1);
            due("the only worker", x.goes(0, 0), 0);
            due("assignments", x.count(3), 1);
            due("the only job", x.goes(0, 1), 0);
            due("acts", x.count(4), 6);
            NextBest most = Tables.full();
            due("the 7th worker", most.goes(6, 0), 6);
            due("the 8th job", most.goes(7, 1), 7);
            due("the only job, with workers", Check.told("jobs 1;worker 1;worker 1;").goes(0, 1), 0);
        });
        says("-2: there are none such.", () -> {
            for (int one : new int[] {-1, 4, 8, MIN, MAX}) {
                leaves(Tables.WIDE, "worker " + one, x -> x.goes(one, 0), -2);
                leaves(Tables.WIDE, "job " + one, x -> x.goes(one, 1), -2);
            }
            leaves(Tables.WIDE, "worker 2 of 2", x -> x.goes(2, 0), -2);
            for (int what : new int[] {-1, 2, MIN, MAX}) {
                leaves(Tables.WIDE, "what " + what, x -> x.goes(0, what), -2);
            }
            NextBest none = new NextBest();
            leaves(none, "no worker", () -> none.goes(0, 0), -2);
            leaves(none, "no job", () -> none.goes(0, 1), -2);
        });
    }

    private void turn() {
        under("Promise 46: turn");
        says("Two WORKERS change places: 1 if any COST is another one by it, else 0.", () -> {
            NextBest x = Check.told(Tables.SQUARE);
            due("the first and the last", x.turn(0, 2), 1);
            due("cost", x.cost(0, 0), 3);
            due("cost", x.cost(2, 0), 4);
            due("the middle stays", x.cost(1, 0), 2);
            due("back, told the other way", x.turn(2, 0), 1);
            due("cost", x.cost(0, 0), 4);
            due("acts", x.count(4), 2);
            for (int worker = 0; worker < 3; worker++) {
                int one = worker;
                leaves(x, "one with itself", () -> x.turn(one, one), 0);
            }
            NextBest like = Check.told("jobs 3;worker 1,x,2;worker 1,x,2;worker 1,x,3;worker 1,x,x;");
            leaves(like, "alike", () -> like.turn(0, 1), 0);
            due("the first cost alone is another", Check.told("jobs 2;worker 1,5;worker 2,5;").turn(0, 1), 1);
            due("the last cost is another", like.turn(0, 2), 1);
            due("NEVER is another", like.turn(1, 3), 1);
            due("cost", like.cost(1, 2), NEVER);
            due("worker 6 of 7", Tables.full().turn(0, 6), 0);
            due("without jobs", Tables.jobless(2).turn(0, 1), 0);
        });
        says("-2: there are none such.", () -> {
            for (int one : new int[] {-1, 3, 7, MIN, MAX}) {
                leaves(Tables.SQUARE, "the one " + one, x -> x.turn(one, 0), -2);
                leaves(Tables.SQUARE, "the other " + one, x -> x.turn(0, one), -2);
                leaves(Tables.SQUARE, "both " + one, x -> x.turn(one, one), -2);
            }
            due("worker 7 of 7", Tables.full().turn(7, 0), -2);
            due("without workers", new NextBest().turn(0, 0), -2);
        });
    }

    private void undo() {
        under("Promise 47: undo");
        says("The latest act is undone: how many can be.", () -> {
            NextBest x = Tables.full();
            Check.lay(x, "jobs");
            due("a worker goes", x.goes(6, 0), 6);
            due("undo", x.undo(), 9);
            due("workers", x.count(0), 7);
            leaves(x, "seven again", () -> x.comes(0, 0), -5);
            x.goes(7, 1);
            due("undo", x.undo(), 9);
            leaves(x, "eight again", () -> x.comes(1, 0), -5);
            due("the last worker undone", x.undo(), 8);
            due("workers", x.count(0), 6);
            due("the tape stays", x.count(5), 4);
            NextBest y = Check.told("jobs 2;worker 1,x;worker 4,7;");
            y.goes(0, 1);
            y.goes(0, 0);
            y.goes(0, 0);
            y.goes(0, 1);
            due("none is left", y.count(0) + y.count(1), 0);
            for (int left = 3; left >= 0; left--) {
                due("undo", y.undo(), left);
            }
            due("cost", y.cost(0, 0), 1);
            due("cost", y.cost(0, 1), NEVER);
            due("cost", y.cost(1, 0), 4);
            due("cost", y.cost(1, 1), 7);
            due("sum", y.sum(0), 8);
            y.tilts(1, 2, 0);
            y.turn(0, 1);
            due("undo turn", y.undo(), 1);
            due("cost", y.cost(1, 1), 9);
            due("undo tilts", y.undo(), 0);
            due("cost", y.cost(1, 1), 7);
        });
        says("NONE: none.", () -> {
            NextBest x = new NextBest();
            leaves(x, "new", x::undo, NONE);
            NextBest y = Check.told(Tables.SQUARE);
            leaves(y, "told", y::undo, NONE);
            y.sets(0, 0, 9);
            y.undo();
            leaves(y, "all undone", y::undo, NONE);
            leaves(y, "again", y::undo, NONE);
            y.sets(0, 0, 4);
            leaves(y, "nothing changed", y::undo, NONE);
            y.sets(0, 0, 9);
            Check.tell(y, Tables.SQUARE);
            leaves(y, "told anew", y::undo, NONE);
        });
    }
}
