/** Terms I: what a text is, and where its first fault lies. */
final class TextSentences extends Sentences {
    TextSentences(Check check, Quotes quotes) {
        super(check, quotes);
    }

    @Override
    public void all() {
        under("Terms");
        says("I. TEXT: {LINE ;}.", this::lines);
        says("LINE: jobs M | worker C {, C}.", this::oneLine);
        says("C: [-] NUMBER | x.", this::oneCost);
        says("jobs is the first LINE and no other:", this::jobsFirst);
        says("M 1 .. 8 JOBS, numbered from 0.", this::howManyJobs);
        says("WORKERS 0 .. 6 as they stand,", this::howManyWorkers);
        says("of each M COSTS, by JOBS:", this::costsByJobs);
        says("-9999 .. 9999,", this::boundsOfCosts);
        says("x: NEVER.", this::never);
        says("TOKENS, blanks (32, 10) aside,", this::blanks);
        says("the longest:", this::longest);
        says("words (a .. z),", this::words);
        says("numbers (digits),", this::numbers);
        says("the signs ; , - .", this::signs);
        says("FAULTS, the first by its place", this::firstByPlace);
        says("(a TOKEN's first byte; the end's),", this::places);
        says("of one place the least:", this::leastOfOnePlace);
        says("1 a TOKEN that is none, or can't stand there.", this::misplaced);
        says("2 a number out of its bounds.", this::outOfBounds);
        says("3 an 8th worker, at its word;", this::eighthWorker);
        says("a COST beyond M, at its first TOKEN (x, -, a number).", this::costBeyond);
        says("4 too few COSTS, at the ; .", this::tooFew);
    }

    private NextBest good(String text, int workers) {
        NextBest x = new NextBest();
        due("table of '" + text + "'", Check.tell(x, text), workers);
        due("fault(0) of '" + text + "'", x.fault(0), 0);
        due("fault(1) of '" + text + "'", x.fault(1), NONE);
        return x;
    }

    private void bad(String text, int fault, int place) {
        NextBest x = new NextBest();
        due("table of '" + text + "'", Check.tell(x, text), -4);
        due("fault(0) of '" + text + "'", x.fault(0), fault);
        due("fault(1) of '" + text + "'", x.fault(1), place);
    }

    private void lines() {
        due("jobs of an empty text", good("", 0).count(1), 0);
        due("jobs of one line", good("jobs 1;", 0).count(1), 1);
        good("jobs 1;worker 1;", 1);
        bad(";", 1, 0);
        bad("jobs 1", 1, 6);
        bad("jobs 1;;", 1, 7);
        bad("jobs 1;worker 2", 1, 15);
        bad("jobs 1;worker 2;;", 1, 16);
        bad("jobs 1 worker 2;", 1, 7);
    }

    private void oneLine() {
        good("jobs 2;worker 5,6;", 1);
        bad("jobs;", 1, 4);
        bad("jobs ,1;", 1, 5);
        bad("jobs 1 1;", 1, 7);
        bad("jobs 1,1;", 1, 6);
        bad("jobs -1;", 1, 5);
        bad("jobs x;", 1, 5);
        bad("jobs 1;worker;", 1, 13);
        bad("jobs 1;worker ,5;", 1, 14);
        bad("jobs 1;worker worker 5;", 1, 14);
        bad("jobs 2;worker 5 6;", 1, 16);
        bad("jobs 2;worker 5,,6;", 1, 16);
        bad("jobs 2;worker 5,6,;", 1, 18);
        bad("jobs 1;5;", 1, 7);
        bad("jobs 1;x;", 1, 7);
        bad("jobs 1;,", 1, 7);
        bad("jobs 1;-", 1, 7);
    }

    private void oneCost() {
        NextBest x = good("jobs 4;worker -0,7,-7,x;", 1);
        due("-0", x.cost(0, 0), 0);
        due("7", x.cost(0, 1), 7);
        due("-7", x.cost(0, 2), -7);
        due("x", x.cost(0, 3), NEVER);
        bad("jobs 1;worker -;", 1, 15);
        bad("jobs 1;worker --1;", 1, 15);
        bad("jobs 1;worker -x;", 1, 15);
        bad("jobs 1;worker 1-;", 1, 15);
        bad("jobs 1;worker 1x;", 1, 15);
        bad("jobs 1;worker x1;", 1, 15);
        bad("jobs 1;worker x x;", 1, 16);
        bad("jobs 1;worker y;", 1, 14);
    }

    private void jobsFirst() {
        bad("worker 1;", 1, 0);
        bad("worker 1;jobs 1;", 1, 0);
        bad("1;", 1, 0);
        bad("jobs 1;jobs 1;", 1, 7);
        bad("jobs 1;worker 1;jobs 1;", 1, 16);
        bad("jobs 1;worker jobs;", 1, 14);
    }

    private void howManyJobs() {
        bad("jobs 0;", 2, 5);
        bad("jobs 00;", 2, 5);
        bad("jobs 9;", 2, 5);
        bad("jobs 10;", 2, 5);
        NextBest one = good("jobs 1;worker 4;", 1);
        due("jobs", one.count(1), 1);
        due("job 0 of 1", one.cost(0, 0), 4);
        due("job 1 of 1", one.cost(0, 1), NO);
        NextBest most = good("jobs 8;worker 1,2,3,4,5,6,7,8;", 1);
        due("jobs", most.count(1), 8);
        due("job 0 of 8", most.cost(0, 0), 1);
        due("job 7 of 8", most.cost(0, 7), 8);
        due("job 8 of 8", most.cost(0, 8), NO);
        due("noughts ahead", good("jobs 0008;", 0).count(1), 8);
    }

    private void howManyWorkers() {
        due("no workers", good("jobs 3;", 0).count(0), 0);
        NextBest x = good("jobs 1;worker 1;worker 2;worker 3;worker 4;worker 5;worker 6;worker 7;", 7);
        due("workers", x.count(0), 7);
        due("worker 0", x.cost(0, 0), 1);
        due("worker 6", x.cost(6, 0), 7);
        due("worker 7", x.cost(7, 0), NO);
    }

    private void costsByJobs() {
        NextBest x = good("jobs 2;worker 1,2;worker 3,4;", 2);
        due("cost(0, 0)", x.cost(0, 0), 1);
        due("cost(0, 1)", x.cost(0, 1), 2);
        due("cost(1, 0)", x.cost(1, 0), 3);
        due("cost(1, 1)", x.cost(1, 1), 4);
        bad("jobs 2;worker 1;", 4, 15);
        bad("jobs 2;worker 1,2,3;", 3, 18);
    }

    private void boundsOfCosts() {
        NextBest x = good("jobs 4;worker 9999,-9999,0,009999;", 1);
        due("the greatest", x.cost(0, 0), 9999);
        due("the least", x.cost(0, 1), -9999);
        due("0", x.cost(0, 2), 0);
        due("noughts ahead", x.cost(0, 3), 9999);
        bad("jobs 1;worker 10000;", 2, 14);
        bad("jobs 1;worker -10000;", 2, 15);
        bad("jobs 2;worker 9999,10000;", 2, 19);
    }

    private void never() {
        NextBest x = good("jobs 2;worker x,9999;worker x,x;", 2);
        due("x", x.cost(0, 0), NEVER);
        due("9999", x.cost(0, 1), 9999);
        due("all x", x.cost(1, 1), NEVER);
        due("how many", x.count(2), 3);
    }

    private void blanks() {
        NextBest x = good("\n jobs\n\n1 ; worker - \n 5 ; \n", 1);
        due("cost", x.cost(0, 0), -5);
        good("jobs1;worker5;", 1);
        good(" ", 0);
        good("\n", 0);
        for (int sign : new int[] {0, 1, 9, 11, 12, 13, 31, 33, 127, 133, 160, 255}) {
            bad((char) sign + "jobs 1;", 1, 0);
            bad("jobs" + (char) sign + "1;", 1, 4);
            bad("jobs 1;" + (char) sign, 1, 7);
        }
    }

    private void longest() {
        bad("jobsworker 1;", 1, 0);
        bad("jobsx 1;", 1, 0);
        bad("jobs 1;workerx;", 1, 7);
        bad("jobs 1;worker xx;", 1, 14);
        bad("jobs 12;", 2, 5);
        bad("jobs 1 2;", 1, 7);
        bad("jobs 1;worker 99999;", 2, 14);
        bad("jobs 1;worker 99 99;", 1, 17);
        bad("jo bs 1;", 1, 0);
    }

    private void words() {
        for (String word : new String[] {"job", "jobss", "jobsa", "jobsz", "Jobs", "JOBS", "a", "z", "x", "workers"}) {
            bad(word + " 1;", 1, 0);
        }
        for (char sign : new char[] {'`', '{', 'A', 'Z', '@', '[', '_'}) {
            bad("jobs" + sign + "1;", 1, 4);
            bad("jobs 1;worker x" + sign + ";", 1, 15);
        }
        bad("jobs 1;worker a;", 1, 14);
        bad("jobs 1;worker z;", 1, 14);
    }

    private void numbers() {
        NextBest x = good("jobs 2;worker 1230,4567;worker 8,9;", 2);
        due("digits", x.cost(0, 0), 1230);
        due("digits", x.cost(0, 1), 4567);
        due("digits", x.cost(1, 1), 9);
        bad("jobs 1;worker /;", 1, 14);
        bad("jobs 1;worker :;", 1, 14);
        bad("jobs 1;worker 1/;", 1, 15);
        bad("jobs 1;worker 1:;", 1, 15);
        bad("jobs 1;worker 1.0;", 1, 15);
        bad("jobs 1;worker " + (char) 178 + ";", 1, 14);
    }

    private void signs() {
        good("jobs 2;worker -1,2;", 1);
        for (char sign : new char[] {'.', '+', ':', '!', '\'', '(', '*', '/', '<', '=', '?', '~'}) {
            bad("jobs 2;worker " + sign + "1,2;", 1, 14);
            bad("jobs 2;worker 1" + sign + "2;", 1, 15);
            bad("jobs 2;worker 1,2" + sign, 1, 17);
        }
    }

    private void firstByPlace() {
        bad("jobs 9;worker ?;", 2, 5);
        bad("jobs 2;worker 1;worker ?;", 4, 15);
        bad("jobs 2;worker 1,2,3?;", 3, 18);
        bad("jobs 2;worker ?,99999;", 1, 14);
        bad("jobs 2;worker 99999;", 2, 14);
        bad("jobs 1;worker 1,-99999;", 3, 16);
        bad("jobs 1;worker 1,-;", 3, 16);
        bad("jobs 2;worker -99999;", 2, 15);
        bad("jobs 1;worker 1,2;worker 99999", 3, 16);
        bad("jobs 0;worker 1;", 2, 5);
        bad("jobs 9", 2, 5);
    }

    private void places() {
        bad("jobs 1;  worked 1;", 1, 9);
        bad("jobs 1;worker \n123456789;", 2, 15);
        bad("jobs 1;worker 1,\n- 1;", 3, 17);
        bad("jobs", 1, 4);
        bad("jobs 1", 1, 6);
        bad("jobs 1;worker", 1, 13);
        bad("jobs 1;worker -", 1, 15);
        bad("jobs 1;worker 1", 1, 15);
        bad("jobs 2;worker 1,", 1, 16);
        bad("jobs 1 \n ", 1, 9);
        bad(" ".repeat(596) + "jobs", 1, 600);
        bad(" ".repeat(599) + "?", 1, 599);
    }

    private void leastOfOnePlace() {
        bad("jobs 1;worker;", 1, 13);
        bad("jobs 2;worker 1,;", 1, 16);
        bad("jobs 1;worker 1,;", 1, 16);
        bad("jobs 1;worker 1,10000;", 2, 16);
        bad("jobs 1;worker 1,9999;", 3, 16);
        bad("jobs 1;worker 1,y;", 1, 16);
        bad("jobs 1;" + "worker 1;".repeat(6) + "worker 1 worker 1;", 1, 70);
    }

    private void misplaced() {
        bad("?", 1, 0);
        bad("jobs ?", 1, 5);
        bad("jobs 1?", 1, 6);
        bad("jobs 1;?", 1, 7);
        bad("jobs 1;worker ?", 1, 14);
        bad("jobs 1;worker 1?", 1, 15);
        bad("jobs 2;worker 1,?", 1, 16);
        bad("jobs 1;worker -?", 1, 15);
        bad("jobs 1;worker 1;?", 1, 16);
        bad("jobs 1;" + "worker 1;".repeat(7) + "jobs", 1, 70);
        bad("jobs 1;" + "worker 1;".repeat(7) + ";", 1, 70);
    }

    private void outOfBounds() {
        bad("jobs 0;", 2, 5);
        bad("jobs 9;", 2, 5);
        bad("jobs 1;worker 10000;", 2, 14);
        bad("jobs 1;worker - 10000;", 2, 16);
        // what would be within bounds if it went round
        bad("jobs 257;", 2, 5);
        bad("jobs 65537;", 2, 5);
        bad("jobs 4294967297;", 2, 5);
        bad("jobs 18446744073709551617;", 2, 5);
        bad("jobs 1;worker 4294967296;", 2, 14);
        bad("jobs 1;worker 18446744073709551616;", 2, 14);
        bad("jobs 1;worker -4294967297;", 2, 15);
        bad("jobs 1;worker 1" + "0".repeat(500) + ";", 2, 14);
        due("500 noughts", good("jobs 1;worker " + "0".repeat(500) + "1;", 1).cost(0, 0), 1);
    }

    private void eighthWorker() {
        String seven = "jobs 1;" + "worker 1;".repeat(7);
        good(seven, 7);
        bad(seven + "worker", 3, 70);
        bad(seven + "worker 1;", 3, 70);
        bad(seven + "  worker ?;", 3, 72);
        bad(seven + "workers 1;", 1, 70);
    }

    private void costBeyond() {
        bad("jobs 1;worker 1,x;", 3, 16);
        bad("jobs 1;worker 1,-2;", 3, 16);
        bad("jobs 1;worker 1, 2;", 3, 17);
        bad("jobs 1;worker x,x;", 3, 16);
        String most = "jobs 8;worker 1,2,3,4,5,6,7,8";
        good(most + ";", 1);
        bad(most + ",9;", 3, 30);
        bad(most + ",x;", 3, 30);
        bad(most + ",-9;", 3, 30);
        bad(most + ",", 1, 30);
    }

    private void tooFew() {
        bad("jobs 2;worker 1;", 4, 15);
        bad("jobs 2;worker x ;", 4, 16);
        bad("jobs 8;worker 1,2,3,4,5,6,7;", 4, 27);
        bad("jobs 8;worker 1,2,3,4,5,6,7,8;worker -1\n;", 4, 40);
        bad("jobs 2;worker 1,2;worker 1;", 4, 26);
        bad("jobs 2;worker 1", 1, 15);
    }
}
