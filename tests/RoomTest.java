import java.lang.management.ManagementFactory;

/** All calls of a run live in one room: an object takes little, its calls take nothing more. */
public final class RoomTest {
    private static final Check CHECK = new Check("RoomTest");

    private static final com.sun.management.ThreadMXBean BEAN =
            (com.sun.management.ThreadMXBean) ManagementFactory.getThreadMXBean();

    private static long used() {
        return BEAN.getCurrentThreadAllocatedBytes();
    }

    public static void main(String[] args) {
        NextBest x = new NextBest();
        useAll(x);
        useAll(new NextBest());
        long before = used();
        NextBest y = new NextBest();
        long made = used() - before;
        CHECK.due("an object takes more than 26,000 bytes: " + made, made > 26000 ? 1 : 0, 0);
        before = used();
        useAll(y);
        long more = used() - before;
        CHECK.due("the calls take more room: " + more, more > 2000 ? 1 : 0, 0);
        CHECK.finish();
    }

    private static void useAll(NextBest x) {
        // "jobs 1;worker 1234; "
        x.feed(0x6a6f6273, 0x20313b77, 0x6f726b65, 0x72203132, 0x33343b20);
        x.table();
        x.fault(0);
        x.end(0);
        for (int i = 0; i < 7; i++) {
            x.comes(1, i);
            x.comes(0, 3 * i);
        }
        for (int i = 0; i < 30; i++) {
            x.sets(i % 7, i % 8, i * 37 % 101);
        }
        x.bars(0, 4);
        x.tilts(1, 4, 1);
        x.turn(2, 3);
        x.goes(6, 0);
        x.undo();
        ask(x);
    }

    private static void ask(NextBest x) {
        for (int i = 0; i < 4; i++) {
            x.count(i);
            x.cost(i, i);
            x.sum(i * 60);
            x.job(i * 60, i);
            x.ties(i * 60);
            x.under(i * 60);
            x.place(0123456);
            x.forced(i, i);
            x.without(i, i);
            x.stays(i, i, i % 2);
            x.would(i, i, i);
            x.ever(i);
            x.price(i);
            x.pay(i);
            x.first(i, 3, 0);
            x.firstJob(i, 3, i);
            x.greedy(0);
            x.greedyJob(i);
            x.mended(0);
            x.auction(1, i % 3);
            x.auctionPrice(1, i);
            x.auctionJob(1, i);
            x.drawn(i);
            x.least(i, i % 2);
            x.loss(i);
            x.dearest(i);
            x.apart(i, 199);
            x.rounds(i, 199, i);
            x.often(i, i, 200);
            x.only(255);
            x.blocked();
            x.move(0123456, i % 3);
            x.middle();
            x.reduced(i, i);
            x.noughts();
        }
    }
}
