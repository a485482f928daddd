/** Tables that several tests share. */
public final class Tables {
    /* By order: 102 (5), 012 (6), 210 (6), 201 (7), 120 (9), 021 (11). */
    public static final String SQUARE = "jobs 3;worker 4,1,3;worker 2,0,5;worker 3,2,2;";
    /* By order: 31 (-1), 32 (2), 01 (3), 02 (6). */
    public static final String WIDE = "jobs 4;worker 5,x,x,1;worker x,-2,1,x;";
    /* Nobody can be placed with the other. */
    public static final String STUCK = "jobs 2;worker x,3;worker x,-4;";
    /* So many assignments, all of sum 0; by rows the last of 200 is 6541, of 201 they are 6452, 6453. */
    public static final String ALL_199 = "jobs 8;worker 0,0,x,x,0,0,x,0;worker 0,x,0,x,0,x,x,0;"
            + "worker 0,0,0,x,0,x,0,x;worker 0,0,x,0,0,x,0,x;";
    public static final String ALL_200 = "jobs 7;worker 0,0,0,0,0,0,0;worker 0,x,x,0,0,0,x;"
            + "worker 0,x,0,x,0,0,0;worker x,0,x,x,0,0,0;";
    public static final String ALL_201 = "jobs 7;worker x,0,x,0,0,0,0;worker 0,0,x,0,0,x,0;"
            + "worker 0,0,x,0,0,0,0;worker x,0,0,0,x,x,0;";

    private Tables() {
    }

    /** So many workers and jobs, each cost the same. */
    public static NextBest even(int workers, int jobs, int cost) {
        NextBest x = new NextBest();
        for (int i = 0; i < jobs; i++) {
            x.comes(1, cost);
        }
        for (int i = 0; i < workers; i++) {
            x.comes(0, cost);
        }
        return x;
    }

    /** As many workers and jobs as there can be, all costs 0: rows alone make the order. */
    public static NextBest full() {
        return even(7, 8, 0);
    }

    /** Workers, but no job for any. */
    public static NextBest jobless(int workers) {
        return even(workers, 0, 0);
    }
}
