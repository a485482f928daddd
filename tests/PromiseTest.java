/** For each promise of the document its ordinary answers, the edges it names, and wrong arguments. */
public final class PromiseTest {
    private static final long NO = NextBest.NO_SUCH;
    private static final long NEVER = NextBest.NEVER;
    private static final int NONE = NextBest.NONE;
    private static final int MIN = Integer.MIN_VALUE;
    private static final int MAX = Integer.MAX_VALUE;

    private static final String SQUARE = Tables.SQUARE;
    private static final String WIDE = Tables.WIDE;
    private static final String STUCK = Tables.STUCK;

    private static final Check CHECK = new Check("PromiseTest");

    private static void due(String call, long got, long want) {
        CHECK.due(call, got, want);
    }

    public static void main(String[] args) {
        promise1();
        promise2();
        promise3();
        promise4();
        promise5();
        faults();
        promise6();
        promise7();
        promise8();
        promise9();
        promise10();
        promise11();
        promise12();
        promise13();
        promise14();
        promise15();
        promise16();
        promise17();
        promise18();
        promise19();
        promise20();
        promise21();
        promise22();
        promise23();
        promise24();
        promise25();
        promise26();
        promise27();
        promise28();
        promise29();
        promise30();
        promise31();
        promise32();
        promise33();
        promise34();
        promise35();
        promise36();
        promise37();
        promise38();
        promise39();
        promise40();
        promise41();
        promise42();
        promise43();
        promise44();
        promise45();
        promise46();
        promise47();
        CHECK.finish();
    }

    private static void promise1() {
        NextBest x = new NextBest();
        due("1 workers", x.count(0), 0);
        due("1 jobs", x.count(1), 0);
        due("1 one assignment", x.count(3), 1);
        due("1 sum 0", x.sum(0), 0);
        due("NONE", NextBest.NONE, -1);
        due("NO_SUCH", NextBest.NO_SUCH, Long.MIN_VALUE);
        due("NEVER", NextBest.NEVER, Long.MAX_VALUE);
    }

    private static void promise2() {
        NextBest x = new NextBest();
        for (int i = 1; i <= 30; i++) {
            due("2 feed", x.feed(0, 0, 0, 0, 0), 20 * i);
        }
        due("2 feed beyond 600", x.feed(0, 0, 0, 0, 0), NONE);
        due("2 none came", x.count(5), 600);
        due("2 end", x.end(581), 581);
        due("2 feed to 601", x.feed(0, 0, 0, 0, 0), NONE);
        due("2 end", x.end(580), 580);
        due("2 feed to 600", x.feed(0, 0, 0, 0, 0), 600);
        // "jobs 1;worker 12345;": each number's highest byte comes first
        NextBest y = new NextBest();
        y.feed(0x6a6f6273, 0x20313b77, 0x6f726b65, 0x72203132, 0x33343b20);
        due("2 bytes in order", y.table(), 1);
        due("2 bytes in order", y.cost(0, 0), 1234);
        y.feed(0xff000000, 0, 0, 0, 0);
        due("2 a byte of 255", y.table(), -4);
        due("2 a byte of 255", y.fault(1), 0);
    }

    private static void promise3() {
        NextBest x = new NextBest();
        due("3 end(0) of none", x.end(0), 0);
        due("3 end(1) of none", x.end(1), NONE);
        x.feed(0, 0, 0, 0, 0);
        due("3 end(21)", x.end(21), NONE);
        due("3 end(-1)", x.end(-1), NONE);
        due("3 end(min)", x.end(MIN), NONE);
        due("3 nothing happened", x.count(5), 20);
        due("3 end(20)", x.end(20), 20);
        due("3 end(7)", x.end(7), 7);
        due("3 end(8)", x.end(8), NONE);
        due("3 count", x.count(5), 7);
        due("3 feed goes on behind", x.feed(0, 0, 0, 0, 0), 27);
    }

    private static void promise4() {
        NextBest x = new NextBest();
        due("4 table", Check.tell(x, SQUARE), 3);
        due("4 the tape is empty", x.count(5), 0);
        due("4 jobs", x.count(1), 3);
        x.sets(0, 0, 9);
        due("4 a fault", Check.tell(x, "jobs 2;worker 1;"), -4);
        due("4 the tape is empty", x.count(5), 0);
        due("4 all else stays: workers", x.count(0), 3);
        due("4 all else stays: jobs", x.count(1), 3);
        due("4 all else stays: costs", x.cost(0, 0), 9);
        due("4 all else stays: undo", x.count(4), 1);
        due("4 in place of another", Check.tell(x, "jobs 2;worker 1,-2;"), 1);
        due("4 nothing to undo", x.count(4), 0);
        due("4 nothing to undo", x.undo(), NONE);
        due("4 cost", x.cost(0, 1), -2);
        due("4 jobs alone", Check.tell(x, "jobs 8;"), 0);
        due("4 jobs alone", x.count(1), 8);
        due("4 an empty text", x.table(), 0);
        due("4 an empty text", x.count(1), 0);
        Check.tell(x, "jobs 1;");
        due("4 blanks alone", Check.tell(x, " \n "), 0);
        due("4 blanks alone", x.count(1), 0);
        due("4 blanks and none", Check.tell(x, "jobs2;worker-\n0 ,\n- 9999;worker x , 0009999 ;\n"), 2);
        due("4 -0", x.cost(0, 0), 0);
        due("4 -9999", x.cost(0, 1), -9999);
        due("4 x", x.cost(1, 0), NEVER);
        due("4 noughts ahead", x.cost(1, 1), 9999);
        due("4 seven workers", Check.tell(x, "jobs 1;" + "worker 1;".repeat(7)), 7);
    }

    private static void promise5() {
        NextBest x = new NextBest();
        due("5 ahead of any", x.fault(0), 0);
        due("5 ahead of any", x.fault(1), NONE);
        Check.tell(x, "jobs 1;worker ?;");
        due("5 fault", x.fault(0), 1);
        due("5 place", x.fault(1), 14);
        due("5 another what", x.fault(2), NONE);
        due("5 another what", x.fault(-1), NONE);
        x.feed(0, 0, 0, 0, 0);
        x.end(0);
        due("5 of the latest table", x.fault(0), 1);
        x.table();
        due("5 without", x.fault(0), 0);
        due("5 without", x.fault(1), NONE);
    }

    private static void faultOf(String text, int fault, int place) {
        NextBest x = new NextBest();
        due("table of " + text, Check.tell(x, text), -4);
        due("fault(0) of " + text, x.fault(0), fault);
        due("fault(1) of " + text, x.fault(1), place);
    }

    private static void faults() {
        // 1: tokens that are none or can't stand there, the end too
        faultOf("Jobs 1;", 1, 0);
        faultOf("\tjobs 1;", 1, 0);
        faultOf("job 1;", 1, 0);
        faultOf("jobsx 1;", 1, 0);
        faultOf("jobsa 1;", 1, 0);
        faultOf("jobsz 1;", 1, 0);
        faultOf("jobs{1;", 1, 4);
        faultOf("jobs`1;", 1, 4);
        faultOf("jobs/1;", 1, 4);
        faultOf("jobs:1;", 1, 4);
        faultOf(";", 1, 0);
        faultOf("worker 1;", 1, 0);
        faultOf("jobs", 1, 4);
        faultOf("jobs  ", 1, 6);
        faultOf("jobs x;", 1, 5);
        faultOf("jobs -1;", 1, 5);
        faultOf("jobs 1,", 1, 6);
        faultOf("jobs 1 2;", 1, 7);
        faultOf("jobs 1;;", 1, 7);
        faultOf("jobs 1;jobs 1;", 1, 7);
        faultOf("jobs 1;worker;", 1, 13);
        faultOf("jobs 1;worker,1;", 1, 13);
        faultOf("jobs 1;worker xx;", 1, 14);
        faultOf("jobs 1;worker --1;", 1, 15);
        faultOf("jobs 1;worker -x;", 1, 15);
        faultOf("jobs 1;worker x1;", 1, 15);
        faultOf("jobs 1;worker 1.5;", 1, 15);
        faultOf("jobs 1;worker 1worker 1;", 1, 15);
        faultOf("jobs 1;worker 1", 1, 15);
        faultOf("jobs 2;worker 1", 1, 15);
        faultOf("jobs 2;worker 1,", 1, 16);
        faultOf("jobs 2;worker 1,;", 1, 16);
        faultOf("jobs 1;worker 1,;", 1, 16);
        faultOf("jobs 1;worker 1,worker", 1, 16);
        // 2: bounds, at the number's first byte, and not at the minus
        faultOf("jobs 0;", 2, 5);
        faultOf("jobs 9;", 2, 5);
        faultOf("jobs 9", 2, 5);
        faultOf("jobs 4294967297;", 2, 5);
        faultOf("jobs 18446744073709551617;", 2, 5);
        faultOf("jobs 1;worker 10000;", 2, 14);
        faultOf("jobs 1;worker - 10000;", 2, 16);
        faultOf("jobs 1;worker 4294967296;", 2, 14);
        faultOf("jobs 1;worker 1,10000;", 2, 16);
        // 3: too many
        faultOf("jobs 1;worker 1,2;", 3, 16);
        faultOf("jobs 1;worker 1, x;", 3, 17);
        faultOf("jobs 1;worker 1,-10000;", 3, 16);
        faultOf("jobs 1;worker 1,-;", 3, 16);
        faultOf("jobs 8;worker 1,2,3,4,5,6,7,8,9;", 3, 30);
        faultOf("jobs 1;" + "worker 1;".repeat(7) + "worker", 3, 70);
        faultOf("jobs 1;" + "worker 1;".repeat(7) + "jobs", 1, 70);
        // 4: too few, at the ;
        faultOf("jobs 2;worker 1;", 4, 15);
        faultOf("jobs 3;worker 1,x ;", 4, 18);
        faultOf("jobs 3;worker 1,x ;?", 4, 18);
    }

    private static void promise6() {
        NextBest x = Check.told(WIDE);
        due("6 workers", x.count(0), 2);
        due("6 jobs", x.count(1), 4);
        due("6 never", x.count(2), 4);
        due("6 assignments", x.count(3), 4);
        due("6 acts", x.count(4), 0);
        x.sets(0, 0, 4);
        due("6 acts", x.count(4), 1);
        Check.lay(x, "jobs");
        due("6 bytes", x.count(5), 4);
        due("6 others", x.count(6), NONE);
        due("6 others", x.count(-1), NONE);
        due("6 all there can be", Tables.full().count(3), 40320);
        due("6 more workers than jobs", Check.told("jobs 1;worker 1;worker 1;").count(3), 0);
    }

    private static void promise7() {
        NextBest x = Check.told(WIDE);
        due("7 cost", x.cost(0, 3), 1);
        due("7 cost", x.cost(1, 1), -2);
        due("7 never", x.cost(0, 1), NEVER);
        due("7 no worker", x.cost(2, 0), NO);
        due("7 no worker", x.cost(-1, 0), NO);
        due("7 no job", x.cost(0, 4), NO);
        due("7 no job", x.cost(0, MIN), NO);
    }

    private static void promise8() {
        NextBest x = Check.told(SQUARE);
        long[] sums = {5, 6, 6, 7, 9, 11};
        for (int k = 0; k < 6; k++) {
            due("8 sum(" + k + ")", x.sum(k), sums[k]);
        }
        due("8 not so many", x.sum(6), NO);
        due("8 below", x.sum(-1), NO);
        due("8 none at all", Check.told(STUCK).sum(0), NO);
        NextBest y = Tables.full();
        y.sets(0, 0, -9999);
        y.sets(1, 1, -9999);
        due("8 the first", y.sum(0), -19998);
        due("8 199", y.sum(199), -19998);
        due("8 200", y.sum(200), NO);
    }

    private static void promise9() {
        NextBest x = Check.told(SQUARE);
        int[][] rows = {{1, 0, 2}, {0, 1, 2}, {2, 1, 0}, {2, 0, 1}, {1, 2, 0}, {0, 2, 1}};
        for (int k = 0; k < 6; k++) {
            for (int w = 0; w < 3; w++) {
                due("9 job(" + k + "," + w + ")", x.job(k, w), rows[k][w]);
            }
        }
        due("9 not so many", x.job(6, 0), NONE);
        due("9 no worker, not so many", x.job(6, 3), -2);
        due("9 no worker", x.job(0, -1), -2);
        due("9 no k", x.job(200, 0), -2);
        due("9 no k", x.job(-1, 0), -2);
        // like sums by their rows: 0123456, 0123457, 0123465, ..
        NextBest y = Tables.full();
        due("9 like sums", y.job(1, 6), 7);
        due("9 like sums", y.job(2, 5), 6);
        due("9 like sums", y.job(2, 6), 5);
    }

    private static void promise10() {
        NextBest x = Check.told(SQUARE);
        due("10 ties(0)", x.ties(0), 1);
        due("10 ties(1)", x.ties(1), 2);
        due("10 ties(2)", x.ties(2), 2);
        due("10 not so many", x.ties(6), NONE);
        due("10 no k", x.ties(200), -2);
        due("10 no k", x.ties(MIN), -2);
        due("10 none at all", Check.told(STUCK).ties(0), NONE);
        due("10 all alike", Tables.full().ties(199), 40320);
    }

    private static void promise11() {
        NextBest x = Check.told(SQUARE);
        due("11 under(4)", x.under(4), 0);
        due("11 under(5)", x.under(5), 1);
        due("11 under(6)", x.under(6), 3);
        due("11 under(10)", x.under(10), 5);
        due("11 under(max)", x.under(Long.MAX_VALUE), 6);
        due("11 under(min)", x.under(Long.MIN_VALUE), 0);
        due("11 none", Check.told(STUCK).under(Long.MAX_VALUE), 0);
    }

    private static void promise12() {
        NextBest x = Check.told(SQUARE);
        int[] told = {0102, 0012, 0210, 0201, 0120, 0021};
        for (int k = 0; k < 6; k++) {
            due("12 place", x.place(told[k]), k);
        }
        due("12 twice the same", x.place(0011), NONE);
        due("12 no such job", x.place(0123), NONE);
        due("12 too many digits", x.place(01102), NONE);
        due("12 below 0", x.place(-1), NONE);
        due("12 min", x.place(MIN), NONE);
        due("12 never", Check.told(WIDE).place(013), NONE);
        due("12 the last of all", Tables.full().place(07654321), 40319);
    }

    private static void promise13() {
        NextBest x = Check.told(SQUARE);
        due("13 forced", x.forced(0, 0), 6);
        due("13 forced", x.forced(0, 1), 5);
        due("13 forced", x.forced(1, 2), 9);
        due("13 no worker", x.forced(3, 0), NO);
        due("13 no job", x.forced(0, -1), NO);
        due("13 never", Check.told(WIDE).forced(0, 1), NO);
        due("13 none", Check.told(STUCK).forced(0, 1), NO);
    }

    private static void promise14() {
        NextBest x = Check.told(SQUARE);
        due("14 without", x.without(0, 1), 6);
        due("14 without", x.without(0, 0), 5);
        due("14 no worker", x.without(-1, 0), NO);
        due("14 no job", x.without(0, 3), NO);
        due("14 no other", Check.told("jobs 1;worker 4;").without(0, 0), NO);
        due("14 never anyway", Check.told(WIDE).without(0, 1), -1);
    }

    private static void promise15() {
        NextBest x = Check.told(SQUARE);
        due("15 had, at the most", x.stays(0, 1, 1), 2);
        due("15 had, no least", x.stays(0, 1, 0), NO);
        due("15 not had, at the least", x.stays(1, 2, 0), 1);
        due("15 not had, no most", x.stays(1, 2, 1), NO);
        due("15 no what", x.stays(0, 1, 2), NO);
        due("15 no what", x.stays(0, 1, -1), NO);
        due("15 no worker", x.stays(3, 1, 1), NO);
        due("15 no job", x.stays(0, 3, 1), NO);
        NextBest y = Check.told("jobs 2;worker 9999,-9999;worker -9999,9999;");
        due("15 beyond the bounds of costs", y.stays(0, 1, 1), 29997);
        due("15 beyond the bounds of costs", y.stays(0, 0, 0), -29997);
        due("15 never", Check.told(WIDE).stays(0, 1, 0), NO);
        due("15 no assignment", Check.told(STUCK).stays(0, 1, 0), NO);
        due("15 there is no other", Check.told("jobs 1;worker 4;").stays(0, 0, 1), NO);
        due("15 it can't be had", Check.told("jobs 2;worker 1,1;worker x,1;").stays(0, 1, 0), NO);
    }

    private static void promise16() {
        NextBest x = Check.told(SQUARE);
        due("16 would", x.would(0, 0, 2), 4);
        due("16 would", x.would(0, 1, 9999), 6);
        due("16 would", x.would(0, 0, -9999), -9997);
        due("16 it stays", x.cost(0, 0), 4);
        due("16 nothing to undo", x.count(4), 0);
        due("16 out of bounds", x.would(0, 0, 10000), NO);
        due("16 out of bounds", x.would(0, 0, -10000), NO);
        due("16 no worker", x.would(3, 0, 1), NO);
        due("16 no job", x.would(0, 3, 1), NO);
        NextBest y = Check.told(STUCK);
        due("16 never till now", y.would(0, 0, 7), 3);
        due("16 still none", y.would(0, 1, 7), NO);
    }

    private static void promise17() {
        NextBest x = Check.told(SQUARE);
        due("17 ever", x.ever(0), 2);
        x.sets(0, 0, 3);
        due("17 two of least sum", x.ever(0), 3);
        due("17 two of least sum", x.ever(2), 4);
        due("17 no worker", x.ever(3), -2);
        due("17 no worker", x.ever(-1), -2);
        due("17 none", Check.told(STUCK).ever(0), 0);
        due("17 all", Tables.full().ever(3), 255);
    }

    private static void promise18() {
        NextBest x = Check.told(WIDE);
        due("18 price", x.price(3), 4);
        due("18 price", x.price(1), 3);
        due("18 price", x.price(0), 0);
        due("18 no job", x.price(4), NO);
        due("18 no job", x.price(-1), NO);
        due("18 none then", Check.told(SQUARE).price(0), NO);
        due("18 none now", Check.told(STUCK).price(0), NO);
        due("18 without workers", Check.told("jobs 2;").price(1), 0);
    }

    private static void promise19() {
        NextBest x = Check.told(SQUARE);
        // the others without job 1: 2 + 2; with all jobs: 0 + 2
        due("19 pay", x.pay(0), 2);
        due("19 pay", x.pay(2), 0);
        due("19 no worker", x.pay(3), NO);
        due("19 no worker", x.pay(-1), NO);
        due("19 none now", Check.told(STUCK).pay(0), NO);
        due("19 alone", Check.told("jobs 1;worker 4;").pay(0), 0);
    }

    private static void promise20() {
        NextBest x = Check.told("jobs 3;worker 1,9,5;worker 7,0,5;worker 4,6,9;");
        // 012 (10): 1 0 9; 021 (12): 1 5 6; 102 (25): 9 7 9; 120 (18): 9 5 4; 201 (18): 5 7 6; 210 (9): 5 0 4
        due("20 rule 0", x.first(0, 0, 0), 9);
        due("20 rule 0", x.first(0, 0, 1), 9);
        due("20 rule 1", x.first(1, 0, 0), 5);
        due("20 rule 1", x.first(1, 0, 1), 9);
        due("20 rule 2", x.first(2, 0, 0), 2);
        due("20 rule 2", x.first(2, 0, 1), 18);
        due("20 rule 3", x.first(3, 4, 0), 1);
        due("20 rule 3", x.first(3, 4, 1), 9);
        due("20 rule 3", x.first(3, 1, 0), 1);
        due("20 rule 3", x.first(3, 1, 1), 10);
        due("20 rule 3, any limit", x.first(3, MIN, 0), 3);
        due("20 rule 3, any limit", x.first(3, MAX, 0), 0);
        due("20 no rule", x.first(4, 0, 0), NO);
        due("20 no rule", x.first(-1, 0, 0), NO);
        due("20 no what", x.first(0, 0, 2), NO);
        due("20 no what", x.first(0, 0, -1), NO);
        for (int rule = 0; rule < 4; rule++) {
            due("20 none", Check.told(STUCK).first(rule, 0, 0), NO);
            due("20 without workers", new NextBest().first(rule, -5, 0), 0);
            due("20 without workers", new NextBest().first(rule, -5, 1), 0);
        }
    }

    private static void promise21() {
        NextBest x = Check.told("jobs 3;worker 1,9,5;worker 7,0,5;worker 4,6,9;");
        due("21 rule 0", x.firstJob(0, 0, 0), 2);
        due("21 rule 2", x.firstJob(2, 0, 0), 2);
        due("21 rule 2", x.firstJob(2, 0, 1), 0);
        due("21 rule 2", x.firstJob(2, 0, 2), 1);
        due("21 rule 3", x.firstJob(3, 1, 0), 0);
        due("21 rule 3", x.firstJob(3, 1, 2), 2);
        due("21 no rule", x.firstJob(4, 0, 0), -2);
        due("21 no worker", x.firstJob(0, 0, 3), -2);
        due("21 none", Check.told(STUCK).firstJob(1, 0, 1), NONE);
        due("21 no rule ahead of none", Check.told(STUCK).firstJob(5, 0, 1), -2);
        // like measure, like sum, of unlike windows: 01 (1, 2) ahead of 10 (2, 1)
        NextBest y = Check.told("jobs 2;worker 1,2;worker 1,2;");
        due("21 like ones by rows", y.firstJob(2, 0, 0), 0);
        // like measure 4, like sum 10, one from 1 to 5 and one from 2 to 6: by rows
        due("21 the later window", Check.told("jobs 3;worker 6,1,x;worker x,2,5;worker 4,x,2;").firstJob(2, 0, 0), 0);
        due("21 by the first worker", Check.told("jobs 3;worker 6,1,x;worker 5,x,2;worker x,2,4;").firstJob(2, 0, 0), 0);
        due("21 the earlier window", Check.told("jobs 3;worker 1,6,x;worker x,5,2;worker 2,x,4;").firstJob(2, 0, 0), 0);
        // like measure: the lesser sum, which lies in another window
        NextBest z = Check.told("jobs 4;worker 7,8,1,x;worker 7,x,x,2;");
        due("21 like measure, by sum", z.firstJob(2, 0, 0), 2);
        due("21 like measure, by sum", z.firstJob(2, 0, 1), 3);
    }

    private static void promise22() {
        NextBest x = Check.told(SQUARE);
        due("22 sum", x.greedy(0), 6);
        due("22 how many", x.greedy(1), 3);
        due("22 no what", x.greedy(2), NO);
        due("22 no what", x.greedy(-1), NO);
        NextBest y = Check.told(STUCK);
        due("22 stuck", y.greedy(0), -4);
        due("22 stuck", y.greedy(1), 1);
    }

    private static void promise23() {
        NextBest x = Check.told(STUCK);
        due("23 job", x.greedyJob(1), 1);
        due("23 none", x.greedyJob(0), NONE);
        due("23 no worker", x.greedyJob(2), -2);
        due("23 no worker", x.greedyJob(-1), -2);
        NextBest y = Check.told("jobs 3;worker 1,1,1;worker 1,1,1;");
        due("23 of like ones the least", y.greedyJob(0), 0);
        due("23 of like ones the least", y.greedyJob(1), 1);
    }

    private static void promise24() {
        NextBest x = Check.told(SQUARE);
        due("24 sum", x.mended(0), 5);
        due("24 steps", x.mended(1), 1);
        due("24 no what", x.mended(2), NO);
        due("24 no what", x.mended(-1), NO);
        due("24 stuck", Check.told(STUCK).mended(0), NO);
        // greed: 0 to 0 (0), 1 to 1 (9); a change would be 1 + 1: by 7 less
        NextBest y = Check.told("jobs 2;worker 0,1;worker 1,9;");
        due("24 change", y.mended(0), 2);
        due("24 change", y.mended(1), 1);
        // greed takes 012 (0, 2, 2); three must go round to get less (0, 3, 0), no two can
        NextBest z = Check.told("jobs 3;worker 0,0,9;worker 9,2,3;worker 0,9,2;");
        due("24 a ring of three is no step", z.mended(1), 0);
        due("24 a ring of three is no step", z.mended(0), 4);
        due("24 yet less could be", z.sum(0), 3);
        // greed: 0 and 20; they change: 9 and 1; worker 0 goes on to job 2: 8 and 1
        NextBest u = Check.told("jobs 3;worker 0,9,8;worker 1,20,21;");
        due("24 greed", u.greedy(0), 20);
        due("24 a change, then a going", u.mended(0), 9);
        due("24 a change, then a going", u.mended(1), 2);
        mendedTies();
    }

    private static void mendedIs(String why, String text, long sum, long steps) {
        NextBest x = Check.told(text);
        due("24 sum, " + why, x.mended(0), sum);
        due("24 steps, " + why, x.mended(1), steps);
    }

    /* Tables on which another choice among like steps would end elsewhere. */
    private static void mendedTies() {
        mendedIs("the least two", "jobs 4;worker 6,1,2,7;worker 2,2,5,2;worker 4,6,8,8;", 8, 2);
        mendedIs("a going first", "jobs 5;worker 0,2,1,0,1;worker 6,2,7,1,1;worker 0,4,4,6,7;", 2, 2);
        mendedIs("a job that was left is free",
                "jobs 6;worker 5,3,4,5,1,7;worker 6,1,8,3,0,6;worker 3,1,0,7,6,0;worker 4,2,0,2,4,6;", 2, 4);
        mendedIs("least worker, then job", "jobs 7;worker 5,4,1,4,1,6,5;worker 6,2,0,3,3,1,0;worker 3,2,2,4,1,1,4;"
                + "worker 6,6,0,6,4,3,6;worker 3,5,5,2,5,3,6;", 4, 4);
        mendedIs("going to job 0", "jobs 4;worker 3,6,2,0;worker 8,7,8,0;worker 2,3,0,4;", 3, 2);
    }

    private static void promise25() {
        NextBest x = Check.told(WIDE);
        due("25 bids", x.auction(1, 0), 2);
        due("25 all", x.auction(1, 1), 1);
        due("25 sum", x.auction(1, 2), -1);
        due("25 no step", x.auction(0, 0), NO);
        due("25 no step", x.auction(100, 0), NO);
        due("25 99", x.auction(99, 0), 2);
        due("25 no what", x.auction(1, 3), NO);
        due("25 no what", x.auction(1, -1), NO);
        // two who want the same job for ever
        NextBest y = Check.told(STUCK);
        due("25 500 bids", y.auction(3, 0), 500);
        due("25 not all", y.auction(3, 1), 0);
        due("25 sum of those that have", y.auction(3, 2), -4);
        // worker 1 has no job that is not never: it ends there, worker 2 has not bid
        NextBest z = Check.told("jobs 2;worker 4,6;worker x,x;worker 1,1;");
        due("25 it ends", z.auction(1, 0), 1);
        due("25 it ends", z.auction(1, 1), 0);
        due("25 it ends", z.auction(1, 2), 4);
    }

    private static void promise26() {
        NextBest x = Check.told(WIDE);
        due("26 price", x.auctionPrice(1, 3), 5);
        due("26 price", x.auctionPrice(10, 3), 14);
        due("26 price", x.auctionPrice(1, 1), 4);
        due("26 price", x.auctionPrice(1, 0), 0);
        due("26 no job", x.auctionPrice(1, 4), -2);
        due("26 no job", x.auctionPrice(1, -1), -2);
        due("26 no step", x.auctionPrice(0, 0), -2);
        due("26 no step", x.auctionPrice(100, 0), -2);
        due("26 there is no other", Check.told("jobs 2;worker x,3;").auctionPrice(7, 1), 1007);
        due("26 500 times", Check.told(STUCK).auctionPrice(3, 1), 501500);
    }

    private static void promise27() {
        NextBest x = Check.told(WIDE);
        due("27 job", x.auctionJob(1, 0), 3);
        due("27 job", x.auctionJob(1, 1), 1);
        due("27 no worker", x.auctionJob(1, 2), -2);
        due("27 no worker", x.auctionJob(1, -1), -2);
        due("27 no step", x.auctionJob(0, 0), -2);
        due("27 no step", x.auctionJob(100, 0), -2);
        NextBest y = Check.told(STUCK);
        due("27 none", y.auctionJob(1, 0), NONE);
        due("27 the last who bid", y.auctionJob(1, 1), 1);
        // 0 takes 0 (by 0 and 1: price 1), 1 takes 1 (net 0: price 1 + 1), 2 takes 0 and ousts 0, who takes ..
        NextBest z = Check.told("jobs 3;worker 0,0,9;worker 0,0,9;worker 0,0,1;");
        due("27 ousted", z.auctionJob(1, 0) + 10 * z.auctionJob(1, 1) + 100 * z.auctionJob(1, 2), 210);
    }

    private static void promise28() {
        NextBest x = Check.told(SQUARE);
        // 1442695040888963407 >>> 33 is 167951807
        due("28 seed 0", x.drawn(0), 167951807 % 6);
        // the round is of 2^64: 5 times the one and the other
        due("28 going round", Tables.full().drawn(5), (int) ((5 * 6364136223846793005L + 1442695040888963407L >>> 33) % 40320));
        due("28 below 0", Tables.full().drawn(-1), (int) ((1442695040888963407L - 6364136223846793005L >>> 33) % 40320));
        due("28 none", Check.told(STUCK).drawn(0), NONE);
        due("28 one", new NextBest().drawn(Long.MIN_VALUE), 0);
    }

    private static void promise29() {
        NextBest x = Check.told(WIDE);
        due("29 worker", x.least(0, 0), 1);
        due("29 worker", x.least(1, 0), -2);
        due("29 job", x.least(0, 1), 5);
        due("29 job", x.least(2, 1), 1);
        due("29 no worker", x.least(2, 0), NO);
        due("29 no job", x.least(4, 1), NO);
        due("29 below", x.least(-1, 1), NO);
        due("29 no what", x.least(0, 2), NO);
        due("29 no what", x.least(0, -1), NO);
        due("29 all never", Check.told(STUCK).least(0, 1), NO);
        due("29 no workers", Check.told("jobs 1;").least(0, 1), NO);
    }

    private static void promise30() {
        NextBest x = Check.told(SQUARE);
        due("30 loss", x.loss(0), 2);
        due("30 loss", x.loss(5), 8);
        due("30 not so many", x.loss(6), NO);
        due("30 no k", x.loss(200), NO);
        due("30 no k", x.loss(-1), NO);
        due("30 none", Check.told(STUCK).loss(0), NO);
        due("30 without workers", new NextBest().loss(0), 0);
    }

    private static void promise31() {
        NextBest x = Check.told(SQUARE);
        due("31 dearest", x.dearest(0), 2);
        due("31 dearest", x.dearest(1), 4);
        due("31 dearest", x.dearest(2), 3);
        due("31 not so many", x.dearest(6), NO);
        due("31 no k", x.dearest(200), NO);
        due("31 no k", x.dearest(-1), NO);
        due("31 without workers", new NextBest().dearest(0), NO);
        due("31 below 0", Check.told("jobs 1;worker -7;").dearest(0), -7);
    }

    private static void promise32() {
        NextBest x = Check.told(SQUARE);
        due("32 apart", x.apart(0, 1), 2);
        due("32 apart", x.apart(1, 3), 3);
        due("32 itself", x.apart(4, 4), 0);
        due("32 not so many", x.apart(0, 6), NONE);
        due("32 not so many", x.apart(6, 0), NONE);
        due("32 no k", x.apart(-1, 6), -2);
        due("32 no l", x.apart(6, 200), -2);
    }

    private static void promise33() {
        NextBest x = Check.told(SQUARE);
        due("33 ring of two", x.rounds(0, 1, 0), 1);
        due("33 ring of two", x.rounds(0, 1, 3), 1);
        due("33 ring of three", x.rounds(1, 3, 2), 3);
        due("33 no chain", x.rounds(1, 3, 1), 0);
        due("33 itself", x.rounds(2, 2, 0) + x.rounds(2, 2, 1) + x.rounds(2, 2, 2) + x.rounds(2, 2, 3), 0);
        due("33 not so many", x.rounds(0, 6, 0), NONE);
        due("33 no what", x.rounds(0, 6, 4), -2);
        due("33 no what", x.rounds(0, 1, -1), -2);
        due("33 no k", x.rounds(-1, 0, 0), -2);
        due("33 no l", x.rounds(0, 200, 0), -2);
        // by order 10 (0), 12 (0), 02 (1), 20 (10)
        NextBest y = Check.told("jobs 3;worker 1,0,10;worker 0,x,0;");
        due("33 one goes", y.rounds(0, 1, 1), 1);
        due("33 one goes", y.rounds(0, 1, 2), 1);
        due("33 one goes", y.rounds(0, 1, 3), 1);
        due("33 chain of two", y.rounds(0, 2, 1), 1);
        due("33 chain of two", y.rounds(0, 2, 2), 2);
        due("33 chain of two", y.rounds(0, 2, 3), 2);
        due("33 chain of two", y.rounds(0, 2, 0), 0);
        due("33 ring of two", y.rounds(2, 3, 0), 1);
        due("33 ring of two", y.rounds(2, 3, 1), 0);
        due("33 ring of two", y.rounds(2, 3, 3), 1);
        NextBest z = Check.told(WIDE);
        due("33 two chains", z.rounds(0, 3, 1), 2);
        due("33 two chains", z.rounds(0, 3, 2), 1);
        due("33 two chains", z.rounds(0, 3, 3), 2);
    }

    private static void promise34() {
        NextBest x = Check.told(SQUARE);
        due("34 often", x.often(0, 2, 4), 2);
        due("34 often", x.often(0, 1, 1), 1);
        due("34 often", x.often(0, 1, 4), 1);
        due("34 fewer", x.often(0, 1, 200), 2);
        due("34 no n", x.often(0, 1, 0), -2);
        due("34 no n", x.often(0, 1, 201), -2);
        due("34 no worker", x.often(3, 1, 1), -2);
        due("34 no job", x.often(0, 3, 1), -2);
        due("34 none", Check.told(STUCK).often(0, 1, 9), 0);
        // all alike: the first 200 begin with 01, the last 80 of them with 013
        due("34 like ones by rows", Tables.full().often(1, 1, 200), 200);
        due("34 like ones by rows", Tables.full().often(2, 2, 200), 120);
        due("34 like ones by rows", Tables.full().often(2, 3, 200), 80);
    }

    private static void promise35() {
        NextBest x = Check.told(WIDE);
        due("35 only", x.only(15), -1);
        due("35 only", x.only(5), 6);
        due("35 only", x.only(12), 2);
        due("35 none", x.only(8), NO);
        due("35 none", x.only(0), NO);
        due("35 no such jobs", x.only(16), NO);
        due("35 no such jobs", x.only(31), NO);
        due("35 below 0", x.only(-1), NO);
        due("35 without workers", Check.told("jobs 2;").only(3), 0);
    }

    private static void promise36() {
        due("36 none", Check.told(SQUARE).blocked(), 0);
        due("36 two for one", Check.told(STUCK).blocked(), 3);
        due("36 one for none", Check.told("jobs 2;worker 1,1;worker x,x;").blocked(), 2);
        due("36 three for two", Check.told("jobs 3;worker 1,1,1;worker 1,x,1;worker 1,x,x;worker x,x,2;").blocked(), 14);
        due("36 of unlike jobs together", Check.told(WIDE).blocked(), 0);
        due("36 no jobs", Tables.jobless(1).blocked(), 1);
    }

    private static void promise37() {
        NextBest x = Check.told(SQUARE);
        due("37 ring", x.move(0102, 0), 1);
        due("37 ring", x.move(0102, 1), 2);
        due("37 ring", x.move(0102, 2), 3);
        due("37 ring of three", x.move(0021, 0), -6);
        due("37 ring of three", x.move(0021, 1), 3);
        due("37 none such", x.move(0022, 0), NO);
        due("37 none such", x.move(-1, 0), NO);
        due("37 no what", x.move(0102, 3), NO);
        due("37 no what", x.move(0102, -1), NO);
        due("37 no move", Check.told("jobs 1;worker 3;").move(0, 0), NO);
        due("37 no workers", new NextBest().move(0, 0), NO);
        // from 02 to 32 or 01: one goes; 31 would need two moves
        NextBest y = Check.told(WIDE);
        due("37 chain", y.move(002, 0), -4);
        due("37 chain", y.move(002, 1), 1);
        due("37 chain", y.move(002, 2), 1);
        // all alike: a chain of one, of the least worker
        NextBest z = Tables.full();
        due("37 the fewest", z.move(0123456, 1), 1);
        due("37 the least set", z.move(0123456, 2), 1);
        // no job is left over: a ring of two, of the least set
        z.goes(7, 1);
        due("37 the fewest", z.move(0123456, 1), 2);
        due("37 the least set", z.move(0123456, 2), 3);
        // rings of 0 and 3 and of 1 and 2, both by -2
        NextBest u = Check.told("jobs 4;worker 0,9,9,-1;worker 9,0,-1,9;worker 9,-1,0,9;worker -1,9,9,0;");
        due("37 of like ones the least set", u.move(0123, 2), 6);
        // rings of 0 and 5 and of 1, 2 and 3, both by -2: the fewest go ahead of the least set
        NextBest v = Check.told("jobs 6;worker 0,9,9,9,9,-1;worker 9,0,-1,9,9,9;worker 9,9,0,-1,9,9;"
                + "worker 9,0,9,0,9,9;worker 9,9,9,9,0,9;worker -1,9,9,9,9,0;");
        due("37 by", v.move(0012345, 0), -2);
        due("37 the fewest first", v.move(0012345, 1), 2);
        due("37 the fewest first", v.move(0012345, 2), 33);
    }

    private static void promise38() {
        due("38 of six the third", Check.told(SQUARE).middle(), 6);
        due("38 of four the second", Check.told(WIDE).middle(), 2);
        due("38 one", new NextBest().middle(), 0);
        due("38 none", Check.told(STUCK).middle(), NO);
        NextBest x = Tables.full();
        x.tilts(3, 5, 0);
        due("38 many", x.middle(), 5);
    }

    private static void promise39() {
        NextBest x = Check.told(SQUARE);
        // less 1, 0, 2: 3 0 2, 2 0 5, 1 0 0; then less 1, 0, 0
        long[][] reduced = {{2, 0, 2}, {1, 0, 5}, {0, 0, 0}};
        for (int w = 0; w < 3; w++) {
            for (int j = 0; j < 3; j++) {
                due("39 reduced", x.reduced(w, j), reduced[w][j]);
            }
        }
        due("39 never", Check.told(WIDE).reduced(0, 1), NEVER);
        due("39 never aside", Check.told(WIDE).reduced(0, 0), 0);
        due("39 no worker", x.reduced(3, 0), NO);
        due("39 no job", x.reduced(0, -1), NO);
    }

    private static void promise40() {
        due("40 noughts", Check.told(SQUARE).noughts(), 5);
        due("40 noughts", Check.told(WIDE).noughts(), 4);
        due("40 never is none", Check.told("jobs 2;worker x,x;").noughts(), 0);
        due("40 no workers", new NextBest().noughts(), 0);
        due("40 all", Tables.full().noughts(), 56);
    }

    private static void promise41() {
        NextBest x = Check.told(WIDE);
        due("41 sets", x.sets(0, 0, 6), 1);
        due("41 cost", x.cost(0, 0), 6);
        due("41 again", x.sets(0, 0, 6), 0);
        due("41 no act", x.count(4), 1);
        due("41 never till now", x.sets(0, 1, -9999), 1);
        due("41 its sum", x.sum(0), -9998);
        due("41 out of bounds", x.sets(0, 0, 10000), -2);
        due("41 out of bounds", x.sets(0, 0, -10000), -2);
        due("41 no worker", x.sets(2, 0, 1), -2);
        due("41 no job", x.sets(0, 4, 1), -2);
        due("41 acts", x.count(4), 2);
    }

    private static void promise42() {
        NextBest x = Check.told(WIDE);
        due("42 bars", x.bars(0, 3), 1);
        due("42 never", x.cost(0, 3), NEVER);
        due("42 its sum", x.sum(0), 3);
        due("42 again", x.bars(0, 3), 0);
        due("42 acts", x.count(4), 1);
        due("42 no worker", x.bars(2, 0), -2);
        due("42 no job", x.bars(0, -1), -2);
    }

    private static void promise43() {
        NextBest x = Check.told(WIDE);
        due("43 worker", x.tilts(0, 10, 0), 2);
        due("43 cost", x.cost(0, 0), 15);
        due("43 never stays", x.cost(0, 1), NEVER);
        due("43 job", x.tilts(1, -3, 1), 1);
        due("43 cost", x.cost(1, 1), -5);
        due("43 by 0", x.tilts(0, 0, 0), 2);
        due("43 acts", x.count(4), 2);
        due("43 out of bounds", x.tilts(0, 9985, 0), -5);
        due("43 nothing happened", x.cost(0, 3), 11);
        due("43 up to the bound", x.tilts(0, 9984, 0), 2);
        due("43 far out", x.tilts(0, MAX, 0), -5);
        due("43 far out", x.tilts(0, MIN, 0), -5);
        due("43 no worker", x.tilts(2, MAX, 0), -2);
        due("43 no job", x.tilts(4, 1, 1), -2);
        due("43 no what", x.tilts(0, 1, 2), -2);
        due("43 no what", x.tilts(0, 1, -1), -2);
        due("43 acts", x.count(4), 3);
        NextBest y = Check.told("jobs 1;worker x;");
        due("43 all never", y.tilts(0, 5, 0), 0);
        due("43 no act", y.count(4), 0);
    }

    private static void promise44() {
        NextBest x = Check.told(WIDE);
        due("44 worker", x.comes(0, -3), 2);
        due("44 cost", x.cost(2, 3), -3);
        due("44 job", x.comes(1, 8), 4);
        due("44 cost", x.cost(0, 4), 8);
        due("44 cost", x.cost(2, 4), 8);
        due("44 out of bounds", x.comes(0, 10000), -2);
        due("44 out of bounds", x.comes(1, -10000), -2);
        due("44 no what", x.comes(2, 0), -2);
        due("44 no what", x.comes(-1, 0), -2);
        due("44 acts", x.count(4), 2);
        NextBest y = Tables.full();
        due("44 seven", y.comes(0, 0), -5);
        due("44 eight", y.comes(1, 0), -5);
        due("44 ahead of -5", y.comes(1, 10000), -2);
        due("44 as they were", y.count(0) + 10 * y.count(1), 87);
    }

    private static void promise45() {
        NextBest x = Check.told(SQUARE);
        due("45 worker", x.goes(1, 0), 2);
        due("45 numbers less by 1", x.cost(1, 1), 2);
        due("45 job", x.goes(0, 1), 2);
        due("45 numbers less by 1", x.cost(0, 0), 1);
        due("45 numbers less by 1", x.cost(1, 1), 2);
        due("45 no more", x.cost(0, 2), NO);
        due("45 no worker", x.goes(2, 0), -2);
        due("45 no job", x.goes(2, 1), -2);
        due("45 below", x.goes(-1, 1), -2);
        due("45 no what", x.goes(0, 2), -2);
        due("45 acts", x.count(4), 2);
        due("45 the last", x.goes(1, 0), 1);
        due("45 the last", x.goes(0, 0), 0);
        due("45 without workers", x.count(3), 1);
        x.goes(0, 1);
        due("45 no jobs", x.goes(0, 1), 0);
        due("45 what comes has its own costs", x.comes(1, 3) + x.comes(0, 4), 0);
        due("45 what comes has its own costs", x.cost(0, 0), 4);
    }

    private static void promise46() {
        NextBest x = Check.told(WIDE);
        due("46 turn", x.turn(0, 1), 1);
        due("46 cost", x.cost(1, 3), 1);
        due("46 cost", x.cost(0, 1), -2);
        due("46 never", x.cost(0, 0), NEVER);
        due("46 itself", x.turn(1, 1), 0);
        due("46 no worker", x.turn(0, 2), -2);
        due("46 no worker", x.turn(-1, 0), -2);
        due("46 acts", x.count(4), 1);
        NextBest y = Check.told("jobs 2;worker 1,x;worker 1,x;");
        due("46 alike", y.turn(0, 1), 0);
        due("46 no act", y.count(4), 0);
    }

    private static void promise47() {
        NextBest x = Check.told(SQUARE);
        due("47 none", x.undo(), NONE);
        x.sets(0, 0, 7);
        x.bars(0, 1);
        x.tilts(2, 5, 0);
        x.comes(0, 1);
        x.comes(1, 1);
        x.goes(0, 1);
        x.goes(0, 0);
        x.turn(0, 1);
        due("47 turned", x.cost(0, 0), 7);
        due("47 undo turn", x.undo(), 7);
        due("47 undo turn", x.cost(0, 0), 0);
        due("47 undo goes", x.undo(), 6);
        due("47 undo goes", x.count(0), 4);
        due("47 undo goes", x.undo(), 5);
        due("47 undo goes", x.cost(0, 0), 7);
        due("47 undo comes", x.undo(), 4);
        due("47 undo comes", x.undo(), 3);
        due("47 undo comes", x.count(0) + 10 * x.count(1), 33);
        due("47 undo tilts", x.undo(), 2);
        due("47 undo tilts", x.cost(2, 1), 2);
        due("47 undo bars", x.undo(), 1);
        due("47 undo bars", x.cost(0, 1), 1);
        due("47 undo sets", x.undo(), 0);
        due("47 undo sets", x.cost(0, 0), 4);
        due("47 undo sets", x.sum(0), 5);
        due("47 no more", x.undo(), NONE);
        for (int v = 1; v <= 12; v++) {
            x.sets(1, 1, v);
        }
        due("47 ten at the most", x.count(4), 10);
        for (int left = 9; left >= 0; left--) {
            due("47 undo", x.undo(), left);
        }
        due("47 ten at the most", x.undo(), NONE);
        due("47 the eldest two stay", x.cost(1, 1), 2);
        x.sets(1, 1, 50);
        due("47 goes on", x.undo(), 0);
        due("47 goes on", x.cost(1, 1), 2);
    }
}
