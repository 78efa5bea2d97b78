import java.lang.management.ManagementFactory;

/** No call makes an object or an array: all rows are made with the object itself. */
public final class RoomTest {
    private static final String PAGE = "b0022,t0324,f6082,c6384,n4455,c7788,b8899,b1122;0123";
    private static final int ROUNDS = 200;

    public static void main(String[] args) {
        Check check = new Check();
        com.sun.management.ThreadMXBean threads = (com.sun.management.ThreadMXBean) ManagementFactory.getThreadMXBean();
        LaneOrder x = new LaneOrder();
        long sum = round(x);
        threads.getCurrentThreadAllocatedBytes();
        long before = threads.getCurrentThreadAllocatedBytes();
        for (int i = 0; i < ROUNDS; i++) {
            sum += round(x);
        }
        long made = threads.getCurrentThreadAllocatedBytes() - before;
        // What the asking itself may take is far below one byte a round and call.
        check.same("bytes made by " + ROUNDS + " rounds are few: " + made + " (sum " + sum + ")", made < 1024, true);
        check.end("RoomTest");
    }

    /** Every call once at least, in the states where it does most. */
    private static long round(LaneOrder x) {
        long sum = x.blank();
        for (int i = 0; i < PAGE.length(); i++) {
            sum += x.letter(PAGE.charAt(i));
        }
        sum += x.fault() + x.page() + x.image();
        for (int i = 0; i < 10; i++) {
            sum += x.box(3, i) + x.as(3, i) + x.order(i) + x.cut(0, i) + x.lane(i, 1) + x.why(i, 0) + x.without(i) + x.count(i);
        }
        sum += x.move(0, 1, 1) + x.change(0, 3) + x.rules(3214) + x.scale(3) + x.calm() + x.idle() + x.free();
        sum += x.see(0, 1, true) + x.drawn(20, 5, 0) + x.digest() + x.take(0) + x.put(3, 3) + x.forget() + x.restore();
        return sum;
    }
}
