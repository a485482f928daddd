/** Promises 32, 33 and 37: from one assignment to another. */
final class CompareSentences extends Sentences {
    private static final int[] NO_RANKS = {-1, 200, 201, MIN, MAX};
    /* Each worker has the job of its number or the next one; worker 0 has the latter for 5 less. */
    private static final String ROUND = "jobs 7;worker 0,-5,x,x,x,x,x;worker x,0,0,x,x,x,x;worker x,x,0,0,x,x,x;"
            + "worker x,x,x,0,0,x,x;worker x,x,x,x,0,0,x;worker x,x,x,x,x,0,0;worker 0,x,x,x,x,x,0;";
    private static final String ALONG = "jobs 8;worker 0,-5,x,x,x,x,x,x;worker x,0,0,x,x,x,x,x;worker x,x,0,0,x,x,x,x;"
            + "worker x,x,x,0,0,x,x,x;worker x,x,x,x,0,0,x,x;worker x,x,x,x,x,0,0,x;worker x,x,x,x,x,x,0,0;";

    CompareSentences(Check check, Quotes quotes) {
        super(check, quotes);
    }

    @Override
    public void all() {
        apart();
        rounds();
        move();
    }

    private void apart() {
        under("Promise 32: apart");
        says("How many WORKERS have unlike JOBS in the k-th and the l-th.", () -> {
            NextBest x = Tables.even(4, 4, 0);
            due("itself", x.apart(0, 0), 0);
            due("itself, the last", x.apart(23, 23), 0);
            due("two", x.apart(0, 1), 2);
            due("all", x.apart(0, 23), 4);
            due("back", x.apart(23, 0), 4);
            due("one goes", Check.told(Tables.WIDE).apart(0, 1), 1);
            due("all seven", Check.told(ROUND).apart(0, 1), 7);
            due("the last that can be asked for", Tables.full().apart(199, 0), 4);
            due("without workers", new NextBest().apart(0, 0), 0);
        });
        says("NONE: not so many; -2: k, l are not 0 .. 199.", () -> {
            NextBest x = Check.told(Tables.WIDE);
            due("the 5th of 4", x.apart(4, 0), NONE);
            due("the 5th of 4", x.apart(0, 4), NONE);
            due("the 5th of 4", x.apart(4, 4), NONE);
            due("of none", Check.told(Tables.STUCK).apart(0, 0), NONE);
            due("the 3rd of 2", Check.told("jobs 2;worker 1,2;").apart(0, 2), NONE);
            due("199 of 199", Check.told(Tables.ALL_199).apart(0, 199), NONE);
            due("199 of 200", Check.told(Tables.ALL_200).apart(199, 199), 0);
            for (int k : NO_RANKS) {
                due("k " + k, Tables.full().apart(k, 0), -2);
                due("l " + k, Tables.full().apart(0, k), -2);
                due("k " + k + ", not so many", x.apart(k, 4), -2);
                due("l " + k + ", not so many", x.apart(4, k), -2);
            }
        });
    }

    private void roundsAre(NextBest x, int from, int to, int... due) {
        for (int what = 0; what < due.length; what++) {
            due("from " + Integer.toOctalString(from) + " to " + Integer.toOctalString(to) + ", what " + what,
                    x.rounds(x.place(from), x.place(to), what), due[what]);
        }
    }

    private void rounds() {
        under("Promise 33: rounds");
        says("From the k-th to the l-th, of WORKERS whose JOB is another one: "
                + "a WORKER takes the JOB that another one had, that one goes on.", () -> {
            roundsAre(Tables.even(4, 4, 0), 00123, 00132, 1, 0, 2, 1);
            roundsAre(Tables.even(3, 5, 0), 0012, 0132, 0, 1, 2, 2);
            // 5 takes 2's, 2 takes 3's, 3 takes 6's, 6 takes job 7; back it is as long
            roundsAre(Tables.full(), 0123456, 0136427, 0, 1, 4, 4);
            roundsAre(Tables.full(), 0136427, 0123456, 0, 1, 4, 4);
        });
        says("What 0: how many RINGS (that come back),", () -> {
            roundsAre(Tables.even(4, 4, 0), 00123, 01032, 2);
            roundsAre(Tables.even(4, 4, 0), 00123, 01230, 1);
            roundsAre(Tables.even(3, 5, 0), 0012, 0123, 0);
        });
        says("1: how many CHAINS (that end with a JOB that none had),", () -> {
            roundsAre(Tables.even(3, 5, 0), 0012, 0342, 0, 2, 1, 2);
            roundsAre(Tables.even(3, 5, 0), 0012, 0103, 1, 1, 2, 2);
            roundsAre(Tables.even(4, 4, 0), 00123, 01230, 1, 0, 4, 3);
        });
        says("2: how many WORKERS the longest of both has (0 without any),", () -> {
            NextBest x = Check.told(ROUND);
            due("a ring of seven", x.rounds(0, 1, 2), 7);
            due("itself", x.rounds(1, 1, 2), 0);
            NextBest y = Check.told(ALONG);
            due("a chain of seven", y.rounds(y.place(0123456), y.place(01234567), 2), 7);
            roundsAre(Tables.even(3, 5, 0), 0012, 0312, 0, 1, 1, 1);
            due("without workers", new NextBest().rounds(0, 0, 2), 0);
        });
        says("3: of all RINGS one less than WORKERS in it, of all CHAINS as many, together.", () -> {
            due("a ring of seven", Check.told(ROUND).rounds(0, 1, 3), 6);
            NextBest y = Check.told(ALONG);
            due("a chain of seven", y.rounds(y.place(0123456), y.place(01234567), 3), 7);
            roundsAre(Tables.even(4, 4, 0), 00123, 01032, 2, 0, 2, 2);
            roundsAre(Tables.even(4, 4, 0), 00123, 01203, 1, 0, 3, 2);
            due("itself", y.rounds(0, 0, 3), 0);
        });
        says("NONE: not so many; -2: k, l are not 0 .. 199, there is no such what.", () -> {
            NextBest x = Check.told(Tables.WIDE);
            for (int what = 0; what < 4; what++) {
                due("the 5th of 4", x.rounds(4, 0, what), NONE);
                due("the 5th of 4", x.rounds(0, 4, what), NONE);
                due("of none", Check.told(Tables.STUCK).rounds(0, 0, what), NONE);
                due("199 of 199", Check.told(Tables.ALL_199).rounds(199, 0, what), NONE);
                for (int k : NO_RANKS) {
                    due("k " + k, Tables.full().rounds(k, 0, what), -2);
                    due("l " + k, Tables.full().rounds(0, k, what), -2);
                    due("k " + k + ", not so many", x.rounds(k, 4, what), -2);
                    due("l " + k + ", not so many", x.rounds(4, k, what), -2);
                }
            }
            for (int what : new int[] {-1, 4, 5, MIN, MAX}) {
                due("what " + what, x.rounds(0, 1, what), -2);
                due("what " + what + ", not so many", x.rounds(0, 4, what), -2);
                due("what " + what + ", of none", Check.told(Tables.STUCK).rounds(0, 0, what), -2);
            }
        });
    }

    private void moveIs(String text, int told, long change, long fewest, long set) {
        String from = " from " + Integer.toOctalString(told) + " of " + text;
        leaves(text, "change" + from, x -> x.move(told, 0), change);
        leaves(text, "fewest" + from, x -> x.move(told, 1), fewest);
        leaves(text, "set" + from, x -> x.move(told, 2), set);
    }

    private void move() {
        under("Promise 37: move");
        says("From an ASSIGNMENT that is told (as in place()) by one MOVE:", () -> {
            moveIs(Tables.SQUARE, 0102, 1, 2, 3);
            moveIs(Tables.SQUARE, 0021, -6, 3, 7);
            // 31 would be two moves away from 02
            moveIs(Tables.WIDE, 002, -4, 1, 1);
            moveIs(Tables.WIDE, 031, 3, 1, 2);
        });
        says("a RING of two WORKERS or more, each of whom takes the JOB of the next, the last one that of the first;", () -> {
            moveIs("jobs 2;worker 0,3;worker 4,0;", 001, 7, 2, 3);
            moveIs("jobs 2;worker 0,3;worker 4,0;", 010, -7, 2, 3);
            moveIs(ROUND, 0123456, -5, 7, 127);
            moveIs("jobs 2;worker 0,3;worker x,0;", 001, NO, NO, NO);
        });
        says("or a CHAIN of one or more, each of whom takes the JOB of the next, the last one a JOB that none has (no COST NEVER):", () -> {
            moveIs("jobs 2;worker 5,3;", 0, -2, 1, 1);
            moveIs("jobs 2;worker 5,3;", 1, 2, 1, 1);
            moveIs("jobs 3;worker 5,x,9;", 0, 4, 1, 1);
            moveIs(ALONG, 0123456, -5, 7, 127);
            // worker 1 takes the job of worker 0, who goes to job 2
            moveIs("jobs 3;worker 0,x,0;worker -5,0,x;", 001, -5, 2, 3);
            moveIs("jobs 2;worker 5,x;", 0, NO, NO, NO);
            moveIs("jobs 3;worker 0,-9,x;worker x,0,x;", 001, NO, NO, NO);
        });
        says("what 0: the least that SUM changes by (below 0: less),", () -> {
            due("far less", Check.told("jobs 2;worker 9999,-9999;worker -9999,9999;").move(001, 0), -39996);
            due("far more", Check.told("jobs 2;worker 9999,-9999;worker -9999,9999;").move(010, 0), 39996);
            due("as much", Tables.full().move(0123456, 0), 0);
        });
        says("1: the fewest WORKERS in such a MOVE,", () -> {
            due("one goes", Tables.full().move(0123456, 1), 1);
            due("no job is left over", Tables.even(7, 7, 0).move(0123456, 1), 2);
            // a going of worker 1 alone would change it by 0, which is not least
            due("of the least ones", Check.told("jobs 3;worker 0,-1,x;worker x,0,0;").move(001, 1), 2);
        });
        says("2: the least SET of WORKERS (bits, as a number) of those.", () -> {
            due("one goes", Tables.full().move(0123456, 2), 1);
            due("no job is left over", Tables.even(7, 7, 0).move(0123456, 2), 3);
            String two = "jobs 4;worker 0,x,x,x;worker x,0,x,0;worker x,x,0,0;";
            due("the lesser of two", Check.told(two).move(0012, 2), 2);
            NextBest x = Check.told(two);
            x.sets(1, 3, 1);
            due("the lesser of two is dearer", x.move(0012, 2), 4);
            // rings of 0 and 3 and of 1 and 2, both by -2
            due("the lesser of two rings", Check.told("jobs 4;worker 0,9,9,-1;worker 9,0,-1,9;worker 9,-1,0,9;worker -1,9,9,0;")
                    .move(0123, 2), 6);
            // rings of 0 and 5 and of 1, 2 and 3, both by -2
            due("the fewest ahead of the least", Check.told("jobs 6;worker 0,9,9,9,9,-1;worker 9,0,-1,9,9,9;worker 9,9,0,-1,9,9;"
                    + "worker 9,0,9,0,9,9;worker 9,9,9,9,0,9;worker -1,9,9,9,9,0;").move(0012345, 2), 33);
            // workers 0 and 1 by -1 together, worker 2 by -1 alone
            due("the fewest ahead of the least", Check.told("jobs 5;worker 0,-1,x,x,x;worker x,0,x,0,x;worker x,x,0,x,-1;").move(0012, 2), 4);
        });
        says("NO_SUCH: it is none, there is no MOVE, no such what.", () -> {
            NextBest x = Check.told(Tables.WIDE);
            for (int told : new int[] {013, 033, 011, 0131, 01031, -1, MIN, MAX}) {
                for (int what = 0; what < 3; what++) {
                    due("move(" + told + ", " + what + ")", x.move(told, what), NO);
                }
            }
            for (int what : new int[] {-1, 3, 4, MIN, MAX}) {
                due("what " + what, x.move(031, what), NO);
            }
            moveIs("jobs 1;worker 3;", 0, NO, NO, NO);
            moveIs("jobs 3;", 0, NO, NO, NO);
            moveIs("", 0, NO, NO, NO);
            moveIs(Tables.STUCK, 001, NO, NO, NO);
            due("an eighth digit", Tables.full().move(010123456, 0), NO);
        });
    }
}
