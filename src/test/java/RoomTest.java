import com.sun.management.ThreadMXBean;
import java.lang.management.ManagementFactory;

/** All calls of a run live in one room: an object is small, and its calls make nothing new. */
public final class RoomTest {
    private static final ThreadMXBean THREADS = (ThreadMXBean) ManagementFactory.getThreadMXBean();
    private static final int CALLS = 512;

    private static int wrong = 0;
    private static long sum = 0;

    private static long allocated() {
        return THREADS.getThreadAllocatedBytes(Thread.currentThread().getId());
    }

    private static void atMost(String what, long bytes, long most) {
        if (bytes > most) {
            wrong++;
            System.out.println(what + " takes " + bytes + " bytes, at most " + most + " are due");
        }
    }

    /** Five full houses, each with other sorts than the next, and all is worth something to all. */
    private static String text() {
        StringBuilder text = new StringBuilder("sorts6;");
        for (int h = 0; h < 5; h++) {
            text.append("house").append(h);
            for (int i = 0; i < 4; i++) {
                text.append(' ').append((3 * h + i % 3) % 6);
            }
            text.append(';');
        }
        for (int i = 0; i < 28; i++) {
            text.append("worth").append(i / 6).append(' ').append(i % 6).append(' ').append(1 + i * 5 % 9).append(';');
        }
        return text.toString();
    }

    private static void tell(CastOffs x) {
        String text = text();
        for (int i = 0; i < text.length(); i++) {
            x.feed(1, text.charAt(i));
        }
        if (x.spit() != 20) {
            wrong++;
            System.out.println("the text has a fault at " + x.fault());
        }
    }

    /** The calls that do most, each as often as an object is used at all. */
    private static void callAll(CastOffs x) {
        for (int i = 0; i < CALLS; i++) {
            sum += x.rings(i % 5, 0);
            sum += x.turnsAt(0, 1, CastOffs.NONE, 4, 1);
            sum += x.down(5, 20, CastOffs.NONE);
            sum += x.chain(i % 5, 5);
            sum += x.waits(0, 5, 0);
            sum += x.judge();
            sum += x.keep(i % 2);
            sum += x.drift(99);
            sum += x.goBack(i % 2);
            sum += x.write(0, 0, false);
            sum += x.toss(0, 0) + x.take(1, 0);
            // a text with a fault, so that the spit stays
            sum += x.feed(8, 0x2020202020202078L) + x.spit();
            sum += x.begin();
        }
    }

    public static void main(String[] args) {
        CastOffs warm = new CastOffs();
        tell(warm);
        callAll(warm);
        long before = allocated();
        CastOffs x = new CastOffs();
        atMost("a new object", allocated() - before, 32768);
        tell(x);
        before = allocated();
        callAll(x);
        atMost(CALLS + " rounds of calls", allocated() - before, 4096);
        System.out.println(wrong == 0 ? "the room is as due" : wrong + " things are not as due");
        if (wrong != 0 || sum == 0) {
            System.exit(1);
        }
    }
}
