import java.lang.management.ManagementFactory;

/** The one room: an object takes some of it when it is made, and no call takes more. */
public final class RoomTest {
    private static final long MOST_MADE = 100_000, MOST_CALLED = 2_000;

    private RoomTest() {
    }

    public static void main(String[] args) {
        run(new HourByVote());
        long start = taken();
        HourByVote x = new HourByVote();
        long made = taken() - start;
        start = taken();
        run(x);
        long called = taken() - start;
        Check.due("bytes of an object: " + made, Math.max(made, MOST_MADE), MOST_MADE);
        Check.due("bytes of all its calls: " + called, Math.max(called, MOST_CALLED), MOST_CALLED);
        Check.end("RoomTest");
    }

    private static long taken() {
        return ((com.sun.management.ThreadMXBean) ManagementFactory.getThreadMXBean()).getCurrentThreadAllocatedBytes();
    }

    private static void run(HourByVote x) {
        for (int p = 0; p < 7; p++) {
            x.voter(1 + p % 5, 3 * p, 1 + p, p);
        }
        // "voter if"
        x.feed(0x6669207265746f76L, 8);
        // " 1<2 nil"
        x.feed(0x6c696e20323c3120L, 8);
        x.feed(';', 1);
        x.rules();
        x.rules();
        x.keep();
        for (int hour = 0; hour < 24; hour++) {
            x.clock(hour);
            x.sum();
            x.on(60);
            x.cycle(0);
            x.whom(0);
            x.liars();
            x.power(2);
            x.fewest(20);
            x.hours(4);
            x.limitFor(20, 3);
            x.play(4);
            x.report(hour, hour);
            x.liar();
            x.often(60, hour);
            x.lot();
            x.prove(3);
            x.judge(3);
            x.again();
        }
        x.sheet(0, 0, 40);
        x.write(0, 0, 7);
        x.wouldBe(0, 0, 20);
        x.goAll(0, 0, 20);
        x.shelf(0, 0, 2);
        x.act(0, 3, 9);
        x.trace(0);
    }
}
