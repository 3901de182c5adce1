import java.lang.management.ManagementFactory;

/** What an object and its calls take of the room that all calls of a run share. */
public final class RoomTest {
    private static final Checks CHECKS = new Checks("RoomTest");

    private static long taken() {
        com.sun.management.ThreadMXBean bean = (com.sun.management.ThreadMXBean) ManagementFactory.getThreadMXBean();
        return bean.getThreadAllocatedBytes(Thread.currentThread().getId());
    }

    public static void main(String[] args) {
        StringBuilder text = new StringBuilder("cliff rungs 8 things 6;tires : strength - 1;may : wind < 9;slips 3;");
        for (int rung = 0; rung <= 8; rung++) {
            text.append("hole ").append(rung).append(" gives 0 gives 1 gives 2 gives 3 gives 4 gives 5;");
        }
        run(text.toString());
        long before = taken();
        HermitLadder x = new HermitLadder();
        long made = taken() - before;
        CHECKS.holds("a new object is small: " + made, made < 250_000);
        before = taken();
        Checks.tell(x, text.toString());
        long told = taken() - before;
        CHECKS.holds("a text takes little: " + told, told < 10_000);
        before = taken();
        calls(x, 60);
        long used = taken() - before;
        CHECKS.holds("calls take little: " + used, used < 100_000);
        CHECKS.end();
    }

    /** Once ahead, so that what the machine makes when it first meets a class is not counted. */
    private static void run(String text) {
        HermitLadder x = new HermitLadder();
        Checks.tell(x, text);
        calls(x, 2);
    }

    private static void calls(HermitLadder x, int times) {
        Checks.fill(x, 0, -1, -1, -1, -1, -1, -1);
        Checks.fill(x, 1, 3, 2, 1, 0);
        long sum = 0;
        for (int i = 0; i < times; i++) {
            x.wind(i % 9);
            sum += x.rows(8, 63, 10) + x.soonest(8, 63) + x.way(8, 63, 3) + x.chance(8, 8, 0) + x.best(8, 8);
            sum += x.seen(0) + x.seenBy(0, 5) + x.surely(0) + x.winds(1) + x.attempt(1) + x.withstands(8);
            sum += x.shares(8, 63, 15) + x.lies(99999) + x.year(i, 40) + x.perform(0) + x.image(0) + x.restore(0);
        }
        CHECKS.holds("something was answered", sum != 0);
    }
}
