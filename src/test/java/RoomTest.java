import java.lang.management.ManagementFactory;
import java.lang.reflect.Array;
import java.lang.reflect.Field;
import java.lang.reflect.Modifier;

/** No call makes objects: the room of a run is filled by its constructors alone. No call throws, whatever it is told. */
public final class RoomTest {
    private static final String CROWDED = "QQQQQQQQ/QkQnQpQQ/Q1Q1Q1QQ/q1q1q1qq/1Q1Q1Q1Q/q1q1q1q1/1Q1Q1Q1K/Q1Q1Q1Q1 w";

    private RoomTest() {
    }

    public static void main(String[] args) throws IllegalAccessException {
        int held = roomOf(new ChessWire());
        System.out.println("one object holds " + held + " fields and elements");
        Check.that("some hundreds of objects have room", held > 0 && held * 400 < 7_300_000);
        ChessWire wire = Check.on(CROWDED);
        Check.type(wire, 1, "Qa4");
        Check.type(wire, 2, "4;5;6");
        dearCalls(wire, 2);
        com.sun.management.ThreadMXBean bean = (com.sun.management.ThreadMXBean) ManagementFactory.getThreadMXBean();
        long ahead = bean.getThreadAllocatedBytes(Thread.currentThread().getId());
        long sum = dearCalls(wire, 20);
        long behind = bean.getThreadAllocatedBytes(Thread.currentThread().getId());
        Check.that("calls made " + (behind - ahead) + " bytes of objects", behind - ahead < 20_000);
        Check.that("they answered", sum != 0);
        fullTexts();
        edges(new ChessWire());
        edges(Check.on(CROWDED));
        Check.end("RoomTest");
    }

    /** The fields and elements of an object or an array, and of what it holds. */
    private static int roomOf(Object holder) throws IllegalAccessException {
        if (holder == null) {
            return 0;
        }
        return holder.getClass().isArray() ? roomOfArray(holder) : roomOfObject(holder);
    }

    private static int roomOfArray(Object array) throws IllegalAccessException {
        int room = Array.getLength(array);
        if (array instanceof Object[]) {
            for (Object item : (Object[]) array) {
                room += roomOf(item);
            }
        }
        return room;
    }

    private static int roomOfObject(Object holder) throws IllegalAccessException {
        int room = 0;
        for (Field field : holder.getClass().getDeclaredFields()) {
            if (!Modifier.isStatic(field.getModifiers())) {
                field.setAccessible(true);
                room += 1 + (field.getType().isPrimitive() ? 0 : roomOf(field.get(holder)));
            }
        }
        return room;
    }

    private static long dearCalls(ChessWire wire, int times) {
        long sum = 0;
        for (int i = 0; i < times; i++) {
            wire.home();
            sum += wire.digest() + wire.readings() + wire.reading(0, 0) + wire.table(2) + wire.all();
            sum += wire.sheet(0, 1, 60) + wire.write(0) + wire.copy(0, 0, 0, 1, 59);
            int move = wire.moves(wire.moves(-1) / 2);
            sum += wire.answer(move, 0) + wire.gain(move, 0, 99, 0) + wire.ahead(move, 9, 99, 0);
            sum += wire.play(move) + wire.state() + wire.means(-1) + wire.could(-1) + wire.played(0);
        }
        return sum;
    }

    private static void fullTexts() {
        ChessWire wire = new ChessWire();
        for (int text = 0; text < 3; text++) {
            for (int i = 0; i < 90; i++) {
                wire.type(text, "8/K;a1"
                    .charAt((i * 7 + text) % 6));
            }
            Check.that("a fault somewhere", wire.fault(text) >= 0);
        }
        Check.that("still answers", wire.digest() != 0);
    }

    private static void edges(ChessWire wire) {
        int[] all = {Integer.MIN_VALUE, Integer.MIN_VALUE + 1, -4097, -65, -2, -1, 0, 1, 2, 3, 5, 9, 60, 64, 99, 255,
            4095, 4096, Integer.MAX_VALUE - 1, Integer.MAX_VALUE};
        long sum = 0;
        for (int a : all) {
            sum += wire.wipe(a) + wire.fault(a) + wire.square(a) + wire.moves(a) + wire.lawful(a) + wire.play(a)
                + wire.read(a) + wire.means(a) + wire.could(a) + wire.table(a) + wire.played(a) + wire.move(a)
                + wire.purse(a) + wire.lose(a) + wire.write(a) + wire.count(a);
            for (int b : all) {
                sum += wire.type(a, b) + wire.shortest(a, b) + wire.weight(a, b) + wire.answer(a, b)
                    + wire.reading(a, b) + wire.sheet(2, b, a) + wire.sheet(a, 1, b);
                for (int c : all) {
                    sum += wire.gain(wire.moves(0), a, b, c) + wire.gain(a, b, c, 1) + wire.ahead(a, 9, c, b)
                        + wire.ahead(wire.moves(0), a, b, c) + wire.lay(2, a, b, c) + wire.lay(a, 1, b, c)
                        + wire.get(a, b, c) + wire.copy(1, a, 1, b, c) + wire.copy(a, 0, b, 0, c)
                        + wire.sheet(a, b, c);
                }
            }
        }
        Check.that("every call answers", sum != 0);
        Check.that("and goes on to", wire.digest() != 0);
    }
}
