import java.lang.management.ManagementFactory;

/** No call may make objects: the room of a run is filled by its constructors alone. Dear calls end soon. */
public final class RoomTest {
    private static final String CROWDED = "QQQQQQQQ/QkQnQpQQ/Q1Q1Q1QQ/q1q1q1qq/1Q1Q1Q1Q/q1q1q1q1/1Q1Q1Q1K/Q1Q1Q1Q1 w";

    private RoomTest() {
    }

    public static void main(String[] args) {
        ChessWire wire = Check.on(CROWDED);
        Check.type(wire, 1, "Qa4");
        Check.type(wire, 2, "4;5;6");
        dearCalls(wire, 2);
        com.sun.management.ThreadMXBean bean = (com.sun.management.ThreadMXBean) ManagementFactory.getThreadMXBean();
        long ahead = bean.getThreadAllocatedBytes(Thread.currentThread().getId());
        long sum = dearCalls(wire, 20);
        long behind = bean.getThreadAllocatedBytes(Thread.currentThread().getId());
        Check.that("calls made " + (behind - ahead) + " bytes of objects", behind - ahead < 20_000);
        Check.that("they answered", sum != 0);
        fullTexts();
        Check.end("RoomTest");
    }

    private static long dearCalls(ChessWire wire, int times) {
        long sum = 0;
        for (int i = 0; i < times; i++) {
            wire.home();
            sum += wire.digest() + wire.readings() + wire.reading(0, 0) + wire.table(2) + wire.all();
            sum += wire.sheet(0, 1, 60) + wire.write(0) + wire.copy(0, 0, 0, 1, 59);
            int move = wire.moves(wire.moves(-1) / 2);
            sum += wire.answer(move, 0) + wire.gain(move, 0, 99, 0) + wire.ahead(move, 9, 99, 0);
            sum += wire.play(move) + wire.state() + wire.means(-1) + wire.could(-1) + wire.played(0);
        }
        return sum;
    }

    private static void fullTexts() {
        ChessWire wire = new ChessWire();
        for (int text = 0; text < 3; text++) {
            for (int i = 0; i < 90; i++) {
                wire.type(text, "8/K;a1"
                    .charAt((i * 7 + text) % 6));
            }
            Check.that("a fault somewhere", wire.fault(text) >= 0);
        }
        Check.that("still answers", wire.digest() != 0);
    }
}
