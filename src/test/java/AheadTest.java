/** Promises 19 to 21: answers sent ahead, what they gain, which are best. */
public final class AheadTest {
    private static final long LONG_BAD = Long.MIN_VALUE + 2, LONG_NOT = Long.MIN_VALUE + 3;

    private AheadTest() {
    }

    public static void main(String[] args) {
        answers();
        gains();
        gainsByWeights();
        best();
        bestInOrder();
        afterAKing();
        Check.end("AheadTest");
    }

    /** The white rook goes to h7, the black king to d8 or f8; '6' is then said of Rh6 alone. */
    private static ChessWire rook() {
        return Check.on("4k3/8/8/8/8/5N2/3N4/4K2R w");
    }

    private static void answers() {
        ChessWire wire = rook();
        int h7 = Check.code("h1", "h7");
        Check.same("to Kd8", wire.answer(h7, 0), Check.code("h7", "h6"));
        Check.same("to Kf8", wire.answer(h7, 1), Check.code("h7", "h6"));
        Check.same("beyond", wire.answer(h7, 2), ChessWire.BAD);
        Check.same("below 0", wire.answer(h7, -1), ChessWire.BAD);
        Check.same("no move", wire.answer(4096, 0), ChessWire.BAD);
        Check.same("no move", wire.answer(-1, 0), ChessWire.BAD);
        Check.same("not lawful", wire.answer(0, 0), ChessWire.NOT);
        Check.same("not lawful, ahead of beyond", wire.answer(0, 99), ChessWire.NOT);
        Check.same("the board stays", wire.lawful(h7), 1);

        ChessWire corner = Check.on("6rk/6pp/8/4N3/8/8/8/K7 b");
        int go = Check.code("h7", "h6");
        Check.same("of many with one sign the least move", corner.answer(go, 0), Check.code("g7", "g6"));
        ChessWire none = Check.on("7k/5Q2/8/8/8/7p/7P/7K w");
        Check.same("no replies: beyond", none.answer(Check.code("f7", "g6"), 0), ChessWire.BAD);
    }

    private static void gains() {
        ChessWire wire = rook();
        int h7 = Check.code("h1", "h7");
        Check.same("half of 21 less 2, above", wire.gain(h7, 0, 20, 0), 17);
        Check.same("below", wire.gain(h7, 0, 20, 1), 2);
        Check.same("lowest terms, above", wire.gain(h7, 1, 21, 0), 9);
        Check.same("lowest terms, below", wire.gain(h7, 1, 21, 1), 1);
        Check.same("nothing gained, above", wire.gain(h7, 1, 3, 0), 0);
        Check.same("nothing gained, below", wire.gain(h7, 1, 3, 1), 1);
        Check.same("without a fee, above", wire.gain(h7, 1, 0, 0), -3);
        Check.same("without a fee, below", wire.gain(h7, 1, 0, 1), 2);
        Check.same("beyond", wire.gain(h7, 2, 0, 0), LONG_BAD);
        Check.same("below 0", wire.gain(h7, -1, 0, 0), LONG_BAD);
        Check.same("fee", wire.gain(h7, 0, 100, 0), LONG_BAD);
        Check.same("fee", wire.gain(h7, 0, -1, 0), LONG_BAD);
        Check.same("what", wire.gain(h7, 0, 0, 2), LONG_BAD);
        Check.same("what", wire.gain(h7, 0, 0, -1), LONG_BAD);
        Check.same("no move", wire.gain(4096, 0, 0, 0), LONG_BAD);
        Check.same("not lawful", wire.gain(0, 0, 0, 0), LONG_NOT);
        Check.same("not lawful, ahead of beyond", wire.gain(0, 99, 0, 0), LONG_NOT);
        Check.same("BAD ahead of not lawful", wire.gain(0, 0, 100, 0), LONG_BAD);

        // Fool's mate: behind g4 the reply Qh4 leaves no answer.
        ChessWire fool = Check.on("rnbqkbnr/pppp1ppp/8/4p3/8/5P2/PPPPP1PP/RNBQKBNR w");
        int g4 = Check.code("g2", "g4");
        fool.play(g4);
        int reply = -1;
        for (int i = 0; i < fool.moves(-1); i++) {
            reply = fool.moves(i) == Check.code("d8", "h4") ? i : reply;
        }
        fool.home();
        Check.same("mate has no answer", fool.answer(g4, reply), ChessWire.NONE);
        Check.same("and no gain", fool.gain(g4, reply, 50, 0), LONG_NOT);
        Check.that("the next has", fool.answer(g4, reply - 1) >= 0);
    }

    private static void gainsByWeights() {
        ChessWire wire = rook();
        int h7 = Check.code("h1", "h7");
        wire.weight(5, 0);
        Check.same("weights are 0: the cost", wire.gain(h7, 0, 99, 0), -2);
        Check.same("by 1", wire.gain(h7, 0, 99, 1), 1);
        Check.same("none is best", wire.ahead(h7, 9, 99, -1), 0);

        // Black has a king (two replies) and a pawn (one): 2 and 1 of all 5.
        ChessWire two = Check.on("k7/p7/8/8/8/8/8/K6R w");
        two.weight(5, 2);
        int g1 = Check.code("h1", "g1");
        Check.same("the first reply is the pawn's", two.moves(-1) > 0 ? two.play(g1) : 0, 1);
        Check.same("a7a5", two.moves(0), Check.code("a7", "a5"));
        Check.same("a7a6", two.moves(1), Check.code("a7", "a6"));
        Check.same("Kb7", two.moves(2), Check.code("a8", "b7"));
        Check.same("Kb8", two.moves(3), Check.code("a8", "b8"));
        Check.same("all replies", two.count(7), 6);
        two.home();
        long pawn = two.gain(g1, 0, 60, 0);
        Check.same("1 of 6 of 61, less 2, above", pawn, 61 - 12);
        Check.same("below", two.gain(g1, 0, 60, 1), 6);
        Check.same("2 of 6 of 61, less 2, above", two.gain(g1, 3, 60, 0), (122 - 12) / 2);
        Check.same("below", two.gain(g1, 3, 60, 1), 3);
    }

    private static void best() {
        ChessWire wire = rook();
        int h7 = Check.code("h1", "h7");
        Check.same("both", wire.ahead(h7, 9, 50, -1), 2);
        Check.same("the least reply first", wire.ahead(h7, 9, 50, 0), Check.code("e8", "d8"));
        Check.same("then the other", wire.ahead(h7, 9, 50, 1), Check.code("e8", "f8"));
        Check.same("beyond", wire.ahead(h7, 9, 50, 2), ChessWire.NONE);
        Check.same("at most one", wire.ahead(h7, 1, 50, -1), 1);
        Check.same("at most one", wire.ahead(h7, 1, 50, 1), ChessWire.NONE);
        Check.same("at most none", wire.ahead(h7, 0, 50, -1), 0);
        Check.same("at most none", wire.ahead(h7, 0, 50, 0), ChessWire.NONE);
        Check.same("a gain of 0 is not above 0", wire.ahead(h7, 9, 3, -1), 0);
        Check.same("a half is", wire.ahead(h7, 9, 4, -1), 2);
        Check.same("k", wire.ahead(h7, 10, 50, -1), ChessWire.BAD);
        Check.same("k", wire.ahead(h7, -1, 50, -1), ChessWire.BAD);
        Check.same("fee", wire.ahead(h7, 9, 100, -1), ChessWire.BAD);
        Check.same("fee", wire.ahead(h7, 9, -1, -1), ChessWire.BAD);
        Check.same("below NONE", wire.ahead(h7, 9, 50, -2), ChessWire.BAD);
        Check.same("no move", wire.ahead(4096, 9, 50, -1), ChessWire.BAD);
        Check.same("not lawful", wire.ahead(0, 9, 50, -1), ChessWire.NOT);
        Check.same("BAD ahead of NOT", wire.ahead(0, 10, 50, -1), ChessWire.BAD);
    }

    private static void bestInOrder() {
        ChessWire wire = Check.on("k7/p7/8/8/8/8/8/K6R w");
        int g1 = Check.code("h1", "g1");
        wire.weight(5, 9);
        int king = wire.ahead(g1, 2, 99, 0);
        Check.same("the heavy man first", king / 64, Check.square("a8"));
        Check.same("the other of them", wire.ahead(g1, 9, 99, 1) / 64, Check.square("a8"));
        Check.same("the light man behind", wire.ahead(g1, 9, 99, 2) / 64, Check.square("a7"));
        for (int i = 0; i < 9; i++) {
            int one = wire.ahead(g1, 9, 99, i);
            int few = wire.ahead(g1, 2, 99, i);
            Check.same("fewer are the first of more", few, i < 2 ? one : ChessWire.NONE);
        }
    }

    private static void afterAKing() {
        ChessWire wire = Check.on("k7/p7/8/8/8/8/8/R6K w");
        Check.same("the pawn shields the king", wire.lawful(Check.code("a1", "a8")), 0);
        ChessWire taken = Check.on("k7/1p6/8/8/8/8/8/R6K w");
        int takes = Check.code("a1", "a8");
        Check.that("replies without a king", taken.answer(takes, 0) >= 0);
        Check.same("two of them", taken.answer(takes, 2), ChessWire.BAD);
    }
}
