import com.sun.management.ThreadMXBean;
import java.lang.management.ManagementFactory;

/** All calls of a run live in one room: no call makes objects, and a new object makes few. */
public final class RoomTest {
    private static final int ROUNDS = 40;

    private static final ThreadMXBean BEAN = (ThreadMXBean) ManagementFactory.getThreadMXBean();

    public static void main(String[] args) {
        long[] texts = {Desk.pack("&{&{W0;P"), Desk.pack("1|W1;!1}"), Desk.pack("|S0;S1;!"), Desk.pack("#r}")};
        PascalDesk desk = new PascalDesk();
        desk.type(Desk.pack("a=v[1]+b"));
        desk.compile(1);
        round(desk, texts);
        long before = allocated();
        for (int i = 0; i < ROUNDS; i++) {
            round(desk, texts);
        }
        // Some room is left for what the measuring itself may take.
        atMost("bytes made by the calls", allocated() - before, 2000);
        before = allocated();
        PascalDesk fresh = new PascalDesk();
        atMost("bytes of a new object", allocated() - before, 20000);
        fresh.count(0);
        Desk.end();
    }

    private static void round(PascalDesk desk, long[] texts) {
        for (long eight : texts) {
            desk.type(eight);
        }
        desk.compile(0);
        desk.tape(0x3120L, 4);
        desk.set(4, 1.5);
        desk.run(0, 0, 0);
        desk.written(0);
        desk.variable(0);
        desk.count(9);
    }

    private static long allocated() {
        return BEAN.getThreadAllocatedBytes(Thread.currentThread().getId());
    }

    private static void atMost(String what, long got, long most) {
        Desk.due(what + " (" + got + ") are few", got <= most ? 1 : 0, 1);
    }
}
