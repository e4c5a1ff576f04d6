/** Counts what the tests of one class found. */
final class Check {
    private static int passed;
    private static int failed;

    private Check() {
    }

    static void that(String what, boolean holds) {
        if (holds) {
            passed++;
        } else {
            failed++;
            System.out.println("wrong: " + what);
        }
    }

    static void same(String what, long got, long due) {
        that(what + " answered " + got + ", due is " + due, got == due);
    }

    /** Types a whole text behind what is there. */
    static void type(ChessWire wire, int text, String said) {
        for (int i = 0; i < said.length(); i++) {
            that("type takes byte " + i + " of " + said, wire.type(text, said.charAt(i)) > 0);
        }
    }

    /** One with this board. */
    static ChessWire on(String board) {
        ChessWire wire = new ChessWire();
        type(wire, 0, board);
        same("fault of " + board, wire.fault(0), ChessWire.NONE);
        return wire;
    }

    static int code(String from, String to) {
        return 64 * square(from) + square(to);
    }

    static int square(String name) {
        return (name.charAt(1) - '1') * 8 + name.charAt(0) - 'a';
    }

    static void end(String name) {
        System.out.println(name + ": " + passed + " passed, " + failed + " failed");
        if (failed > 0) {
            System.exit(1);
        }
    }
}
