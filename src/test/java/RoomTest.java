import com.sun.management.ThreadMXBean;
import java.lang.management.ManagementFactory;

/** All calls of a run live in one room: what an object and its dearest calls allocate is kept small. */
public final class RoomTest {
    private static final ThreadMXBean BEAN = (ThreadMXBean) ManagementFactory.getThreadMXBean();
    private static final long CONSTRUCTOR_MOST = 16000;
    private static final long SLACK = 2000;

    public static void main(String[] args) {
        BEAN.getCurrentThreadAllocatedBytes();
        everyCall(Check.ring(denseRing()));
        constructor();
        calls();
        reads();
        Check.finish();
    }

    private static String denseRing() {
        return "r=4*(d 1/2 q 1 k m s 3 d 1 q 1/3 k m d 1 q 1)18*(d 1 q 1);";
    }

    private static void everyCall(MagnetRing ring) {
        ring.part(0, 1);
        ring.kick(0, 1, 7);
        ring.table(0, 200);
        ring.round(3);
        ring.widths(5);
        ring.turns();
        ring.way(79);
        ring.answer(7, 7);
        ring.bump(0, 3, 7);
        ring.number(0, 0);
        ring.grid(31);
        ring.rows(3);
        ring.after(31, 1, 2, 1000);
        ring.count(4);
        ring.place();
    }

    private static void constructor() {
        new MagnetRing();
        long before = BEAN.getCurrentThreadAllocatedBytes();
        MagnetRing ring = new MagnetRing();
        long made = BEAN.getCurrentThreadAllocatedBytes() - before;
        Check.same("a new object's bytes " + made, made <= CONSTRUCTOR_MOST ? ring.count(0) : -1, 0);
    }

    private static void calls() {
        MagnetRing ring = Check.ring(denseRing());
        long before = BEAN.getCurrentThreadAllocatedBytes();
        for (int i = 0; i < 30; i++) {
            everyCall(ring);
        }
        long made = BEAN.getCurrentThreadAllocatedBytes() - before;
        Check.holds("calls that are no read make nothing, not " + made, made <= SLACK);
    }

    /** 512 calls can feed some 4000 bytes: three texts of short lines that are 80 PARTS each. */
    private static void reads() {
        StringBuilder text = new StringBuilder("aa=40*(d 1 q 1);");
        for (char one = 'a'; one <= 'z'; one++) {
            for (char two = 'b'; two <= 'z' && text.length() + 6 <= 1350; two++) {
                text.append(one).append(two).append("=aa;");
            }
        }
        MagnetRing ring = new MagnetRing();
        long worst = 0;
        for (int i = 0; i < 3; i++) {
            Check.feed(ring, text.toString());
            long before = BEAN.getCurrentThreadAllocatedBytes();
            Check.same("read", ring.read(), 80);
            worst += BEAN.getCurrentThreadAllocatedBytes() - before;
        }
        Check.holds("three long reads make less than 400000 bytes, not " + worst, worst < 400000);
    }
}
