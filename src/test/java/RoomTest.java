import java.lang.management.ManagementFactory;

/** What objects and calls take of the room that all calls of a run share. */
public final class RoomTest {
    private static final String DENSE = "S111111daa001dab002dac003dad004dabc005dabcd016dba107dbb218l996";

    private static final com.sun.management.ThreadMXBean METER =
        (com.sun.management.ThreadMXBean) ManagementFactory.getThreadMXBean();

    private static long taken() {
        return METER.getThreadAllocatedBytes(Thread.currentThread().getId());
    }

    public static void main(String[] args) {
        Due due = new Due("RoomTest");
        // What the machine itself takes for the first use of a class is not to be counted.
        everyCall(Due.stone(DENSE));
        taken();
        long before = taken();
        WornLetters x = new WornLetters();
        long made = taken() - before;
        Due.write(x, DENSE);
        x.stone();
        everyCall(x);
        long first = taken() - before;
        due.holds("its first calls take less than 160 KB in all, and take " + first, first < 160000);
        before = taken();
        for (int i = 0; i < 10; i++) {
            everyCall(x);
        }
        long later = taken() - before;
        due.holds("a new object takes less than 16 KB, and takes " + made, made < 16000);
        due.holds("later calls take nothing, and take " + later, later < 1000);
        due.finish();
    }

    private static long everyCall(WornLetters x) {
        long sum = x.write(300) + x.fault() + x.stone() + x.word(0, 3) + x.line(0) + x.rule(0, 0);
        sum += x.carve(0, 0) + x.wear(0) + x.bar(1) + x.setRule(0, 1, 2) + x.weigh(0, 5) + x.undo();
        sum += x.lies(0, 0) + x.readings() + x.rank(5, 0) + x.stands(0, 0) + x.begins(0, 0) + x.sure(0);
        sum += x.judge(3, 310004000170000L) + x.see(0, 0, 1) + x.which(0) + x.which(1) + x.unsee();
        sum += x.share(0, true) + x.lost(3, true) + x.seed(1) + x.drawn(20) + x.keep(0) + x.again(0) + x.count(3);
        return sum;
    }
}
