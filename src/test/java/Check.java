/** Counts what the tests of one class found. */
final class Check {
    private static String topic = "";
    private static boolean hushed;
    private static int passed;
    private static int failed;

    private Check() {
    }

    /** What the checks from here on are about. */
    static void about(String what) {
        topic = what + ": ";
    }

    /** From here on what fails is only counted. */
    static void hush() {
        hushed = true;
    }

    static boolean allHeld() {
        return passed > 0 && failed == 0;
    }

    static void that(String what, boolean holds) {
        if (holds) {
            passed++;
            return;
        }
        failed++;
        if (!hushed) {
            System.out.println("wrong: " + topic + what);
        }
    }

    static void same(String what, long got, long due) {
        that(what + " answered " + got + ", due is " + due, got == due);
    }

    /** Types a whole text behind what is there. */
    static void type(ChessWire wire, int text, String said) {
        int taken = 0;
        while (taken < said.length() && wire.type(text, said.charAt(taken)) > 0) {
            taken++;
        }
        same("bytes taken of " + said, taken, said.length());
    }

    /** One with this board. */
    static ChessWire on(String board) {
        ChessWire wire = new ChessWire();
        type(wire, 0, board);
        same("fault of " + board, wire.fault(0), ChessWire.NONE);
        return wire;
    }

    /** A text in the place of the one that was there. */
    static void retype(ChessWire wire, int text, String said) {
        wire.wipe(text);
        type(wire, text, said);
    }

    /** Whether a move, told by its two squares, is lawful. */
    static void lawful(ChessWire wire, String move, boolean due) {
        same(move + " lawful", wire.lawful(code(move)), due ? 1 : 0);
    }

    /** The number of a move that is told by its two squares, as e2e4. */
    static int code(String move) {
        return code(move.substring(0, 2), move.substring(2));
    }

    static int code(String from, String to) {
        return 64 * square(from) + square(to);
    }

    static int square(String name) {
        return (name.charAt(1) - '1') * 8 + name.charAt(0) - 'a';
    }

    static void end(String name) {
        System.out.println(name + ": " + passed + " passed, " + failed + " failed");
        if (failed > 0) {
            System.exit(1);
        }
    }
}
