import com.sun.management.ThreadMXBean;
import java.lang.management.ManagementFactory;

/** All rows are made in the constructor: calls behind it make nothing, and the constructor stays small. */
public final class RoomTest {
    private static final Check C = new Check();
    private static final ThreadMXBean MEMORY = (ThreadMXBean) ManagementFactory.getThreadMXBean();

    public static void main(String[] args) {
        calls(new ObjectFile());
        long before = allocated();
        ObjectFile x = new ObjectFile();
        long constructor = allocated() - before;
        C.that(constructor < 100_000, "the constructor makes " + constructor + " bytes");
        before = allocated();
        calls(x);
        long calls = allocated() - before;
        C.that(calls < 20_000, "the calls make " + calls + " bytes");
        C.end();
    }

    private static long allocated() {
        return MEMORY.getThreadAllocatedBytes(Thread.currentThread().getId());
    }

    private static void calls(ObjectFile x) {
        for (int k = 0; k < 50; k++) {
            x.put(k % 3, 8, 0);
            x.start(2 * k);
            x.letter(65 + k % 26);
            x.letter(33 + k);
            x.symbol(4, k, k, k % 3, 0);
            x.relocation(0, 0, 51, -1, 0);
            C.that(x.write() > 0, "write");
            C.due("read", x.read(), 0);
            x.keep();
        }
    }
}
