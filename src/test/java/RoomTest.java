import java.lang.management.ManagementFactory;

/** A run of 512 of the dearest calls must stay far below its room: 7.3 million fields and elements. */
public final class RoomTest {
    private static final Due DUE = new Due("RoomTest");
    /** Exceptions and what the test itself makes are in it. */
    private static final long MOST_BYTES = 1024 * 1024;
    private static final int MOST_CALLS = 512;

    private static final String SCHEMA = "R(a:R(a:AU(N,I)=[N,N,N],b:U(S,N)=\"123456789012\"),b:R(a:N,b:N,c:N,d:N,e:N,f:N),"
        + "c:R(a:N,b:N,c:N,d:N,e:N,f:N),d:R(a:N,b:N,c:N),e:AAR(a:N,b:N,c:N,d:N),f:L)";

    public static void main(String[] args) {
        DUE.is("a long schema", true, SCHEMA.length() > 150 && SCHEMA.length() <= 160);
        for (int call = 0; call < 4; call++) {
            madeBy(call);
            long bytes = madeBy(call);
            DUE.is("call " + call + " makes little: " + bytes, true, bytes < MOST_BYTES);
        }
        DUE.end();
    }

    private static long made() {
        return ((com.sun.management.ThreadMXBean) ManagementFactory.getThreadMXBean()).getThreadAllocatedBytes(
            Thread.currentThread().getId());
    }

    private static long madeBy(int call) {
        long before = made();
        Desk desk = new Desk();
        desk.say(SCHEMA);
        desk.register(0);
        desk.say(call == 0 ? SCHEMA.replace("L)", "I)") : SCHEMA.replace("f:L)", "f:L"));
        desk.mode(0, 1);
        // No elements in a, no string in b, eight times twenty in e, and what is left is too much.
        desk.give(0, 0, 0, 16, 40, 0, 40, 0, 40, 0, 40, 0, 40, 0, 40, 0, 40, 0, 40, 0, 0, 1);
        for (int i = 0; i < MOST_CALLS - 70; i++) {
            if (call <= 1) {
                desk.register(0);
            } else if (call == 2) {
                desk.encode(0, 0);
            } else {
                desk.decode(0, 0, 0);
            }
        }
        return made() - before;
    }
}
