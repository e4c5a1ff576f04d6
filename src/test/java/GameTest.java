/** Promises 22 to 26: games as rows of sayings, purses and readings. */
public final class GameTest {
    private static final String START = "rnbqkbnr/pppppppp/8/8/8/8/PPPPPPPP/RNBQKBNR w";

    private GameTest() {
    }

    public static void main(String[] args) {
        played();
        stopped();
        faulty();
        purses();
        readings();
        readingsThatEnd();
        unlikeMoves();
        tooMany();
        Check.end("GameTest");
    }

    private static void game(ChessWire wire, String said) {
        wire.wipe(2);
        Check.type(wire, 2, said);
    }

    private static void isPlayed(ChessWire wire, int part, int moves, int signs) {
        Check.same("part", wire.played(0), part);
        Check.same("moves", wire.played(1), moves);
        Check.same("signs", wire.played(2), signs);
        Check.same("no such", wire.played(3), ChessWire.BAD);
        Check.same("no such", wire.played(-1), ChessWire.BAD);
    }

    private static void played() {
        ChessWire wire = Check.on(START);
        isPlayed(wire, -1, 0, 0);
        Check.same("none", wire.move(0), ChessWire.NONE);
        game(wire, "e4;e5;Nf3;Nbc6;Pd4");
        Check.same("parts", wire.count(6), 5);
        isPlayed(wire, -1, 5, 14);
        Check.same("first", wire.move(0), Check.code("e2", "e4"));
        Check.same("second", wire.move(1), Check.code("e7", "e5"));
        Check.same("third", wire.move(2), Check.code("g1", "f3"));
        Check.same("fourth", wire.move(3), Check.code("b8", "c6"));
        Check.same("fifth", wire.move(4), Check.code("d2", "d4"));
        Check.same("beyond", wire.move(5), ChessWire.NONE);
        Check.same("below 0", wire.move(-1), ChessWire.BAD);
        Check.same("the board stays", wire.moves(-1), 20);
        Check.same("none has been played", wire.count(5), 0);
        wire.play(Check.code("e2", "e4"));
        isPlayed(wire, 0, 0, 0);
        game(wire, "e5;Nf3");
        isPlayed(wire, -1, 2, 5);
    }

    private static void stopped() {
        ChessWire wire = Check.on(START);
        game(wire, "e4;e;Nf");
        isPlayed(wire, 1, 1, 2);
        Check.same("the first", wire.move(0), Check.code("e2", "e4"));
        Check.same("ahead of it only", wire.move(1), ChessWire.NONE);
        game(wire, "e4;e4");
        isPlayed(wire, 1, 1, 2);
        game(wire, "N3;e5");
        isPlayed(wire, 0, 0, 0);
        game(wire, "f3;e5;g4;Qh4;a3");
        isPlayed(wire, 0, 0, 0);
        game(wire, "Pf3;e5;g4;Qh4;a3");
        isPlayed(wire, 4, 4, 10);
    }

    private static void faulty() {
        ChessWire wire = Check.on(START);
        game(wire, "e4;e5;");
        Check.same("fault", wire.fault(2), 6);
        Check.same("no parts", wire.count(6), 0);
        isPlayed(wire, -1, 0, 0);
        Check.same("purse", wire.purse(0), ChessWire.NONE);
        Check.same("one reading, as of an empty game", wire.readings(), 1);
        Check.same("without moves", wire.reading(0, 0), ChessWire.NONE);
        game(wire, "e4;e5;d4;d5;x");
        Check.same("no parts: not FULL", wire.readings(), 1);
        game(wire, "a;b;c;d;e;f;g;h;a;b;c;d");
        Check.same("twelve", wire.count(6), 12);
        wire.type(2, ';');
        Check.same("no thirteenth", wire.count(6), 0);
    }

    private static void purses() {
        ChessWire wire = Check.on(START);
        game(wire, "e4;e5;Nf;Nc;Pd4;a");
        Check.same("all for 99", wire.purse(99), ChessWire.NONE);
        Check.same("11 signs were used", wire.purse(11), ChessWire.NONE);
        Check.same("not 10", wire.purse(10), 4);
        Check.same("8", wire.purse(8), 4);
        Check.same("7", wire.purse(7), 3);
        Check.same("2", wire.purse(2), 1);
        Check.same("1", wire.purse(1), 0);
        Check.same("0", wire.purse(0), 0);
        Check.same("too much", wire.purse(100), ChessWire.BAD);
        Check.same("too little", wire.purse(-1), ChessWire.BAD);
        game(wire, "e;e5");
        Check.same("none is played", wire.purse(0), ChessWire.NONE);
    }

    private static void readings() {
        ChessWire wire = Check.on(START);
        Check.same("of an empty game", wire.readings(), 1);
        Check.same("no move", wire.reading(0, 0), ChessWire.NONE);
        Check.same("none unlike", wire.reading(0, 1), 0);
        game(wire, "e;e");
        Check.same("two by two", wire.readings(), 4);
        Check.same("the first: e3", wire.reading(0, 0), Check.code("e2", "e3"));
        Check.same("and e5", wire.reading(1, 0), Check.code("e7", "e5"));
        Check.same("no third", wire.reading(2, 0), ChessWire.NONE);
        Check.same("unlike", wire.reading(0, 1), 2);
        Check.same("unlike", wire.reading(1, 1), 2);
        Check.same("unlike", wire.reading(2, 1), 0);
        game(wire, "4;5;5");
        Check.same("part", wire.reading(3, 0), ChessWire.BAD);
        Check.same("part", wire.reading(-1, 0), ChessWire.BAD);
        Check.same("what", wire.reading(0, 2), ChessWire.BAD);
        Check.same("what", wire.reading(0, -1), ChessWire.BAD);
        // 8 * 7 pawns go on, 2 * 7 take; behind e4 a bishop and the queen may go, behind d4 the other bishop.
        Check.same("three parts", wire.readings(), 56 + 14 + 3 * 8);
        Check.same("the first", wire.reading(0, 0), Check.code("a2", "a4"));
        Check.same("the board stays", wire.moves(-1), 20);
    }

    private static void readingsThatEnd() {
        ChessWire wire = Check.on(START);
        game(wire, "e;d5;Pd5");
        Check.same("only e4 can take", wire.readings(), 1);
        Check.same("the first is the one that goes on", wire.reading(0, 0), Check.code("e2", "e4"));
        Check.same("e3 is in none", wire.reading(0, 1), 1);
        Check.same("taken", wire.reading(2, 0), Check.code("e4", "d5"));
        game(wire, "e;d5;Pd6");
        Check.same("none", wire.readings(), 0);
        for (int part = 0; part < 3; part++) {
            Check.same("no first", wire.reading(part, 0), ChessWire.NONE);
            Check.same("none unlike", wire.reading(part, 1), 0);
        }
    }

    private static void unlikeMoves() {
        ChessWire wire = Check.on(START);
        game(wire, "e;Nc;Nf");
        Check.same("two", wire.readings(), 2);
        Check.same("unlike first parts", wire.reading(0, 1), 2);
        Check.same("the same in all", wire.reading(1, 1), 1);
        Check.same("the same in all", wire.reading(2, 1), 1);
        ChessWire queens = Check.on("7k/8/8/qQ6/8/8/8/7K w");
        game(queens, "Qa6;Qa6");
        Check.same("one by one", queens.readings(), 1);
        Check.same("each part for itself", queens.reading(0, 1), 1);
        Check.same("each part for itself", queens.reading(1, 1), 1);
    }

    private static void tooMany() {
        ChessWire wire = Check.on(START);
        game(wire, "e4;e5;d4;d5");
        Check.same("four parts", wire.readings(), ChessWire.FULL);
        Check.same("four parts", wire.reading(0, 0), ChessWire.FULL);
        Check.same("BAD ahead of FULL", wire.reading(3, 0), ChessWire.BAD);

        // Queens above and below a row reach it 44 times, but for a gap.
        ChessWire many = Check.on("k7/8/QQQQQQQQ/8/QQQ1QQQQ/8/8/K7 w");
        game(many, "5");
        Check.same("41 moves are too many", many.readings(), ChessWire.FULL);
        Check.same("41 moves are too many", many.reading(2, 1), ChessWire.FULL);
        Check.same("it is no fault", many.fault(2), ChessWire.NONE);
        ChessWire forty = Check.on("k7/8/QQQQQQQQ/8/RQQ1QQQQ/8/8/K7 w");
        game(forty, "5");
        Check.same("40 are not", forty.readings(), 40);
        Check.same("all unlike", forty.reading(0, 1), 40);
        Check.same("the first", forty.reading(0, 0), Check.code("a4", "a5"));

        // The same behind one move: the knight leaves his king shielded.
        ChessWire second = Check.on("k7/8/qqqqqqqq/8/qqq1qqqq/8/6PP/6NK w");
        game(second, "Ne;5");
        Check.same("41 moves behind one", second.readings(), ChessWire.FULL);
        ChessWire less = Check.on("k7/8/qqqqqqqq/8/rqq1qqqq/8/6PP/6NK w");
        game(less, "Ne;5");
        Check.same("40 behind one", less.readings(), 40);

        // The same behind two moves: the king is taken, a pawn goes.
        ChessWire later = Check.on("8/8/qqqqqqqq/8/qqq1qqqq/8/6P1/kK6 b");
        game(later, "Kb;g;5");
        Check.same("41 moves behind two", later.readings(), ChessWire.FULL);
        game(later, "Kb;b;5");
        Check.same("never come to", later.readings(), 0);
        ChessWire fewer = Check.on("8/8/qqqqqqqq/8/rqq1qqqq/8/6P1/kK6 b");
        game(fewer, "Kb;g;5");
        Check.same("40 behind two", fewer.readings(), 40);
        Check.same("one of the second", fewer.reading(1, 1), 1);
        Check.same("40 of the third", fewer.reading(2, 1), 40);
    }
}
