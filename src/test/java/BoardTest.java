/** Promises 1 to 12: a new object, texts, the board, lawful moves, playing. */
public final class BoardTest {
    private static final String START = "rnbqkbnr/pppppppp/8/8/8/8/PPPPPPPP/RNBQKBNR w";

    private BoardTest() {
    }

    public static void main(String[] args) {
        aNewObject();
        texts();
        faultsOfBoards();
        faultsOfSayings();
        faultsOfGames();
        squaresAndSide();
        lawfulMoves();
        pawns();
        kingsThatAreTaken();
        states();
        playing();
        reading();
        goingHome();
        Check.end("BoardTest");
    }

    private static void aNewObject() {
        ChessWire wire = new ChessWire();
        for (int text = 0; text < 3; text++) {
            Check.same("wipe of a new text", wire.wipe(text), 0);
        }
        for (int s = 0; s < 4; s++) {
            Check.same("lose of a new sheet", wire.lose(s), -11);
        }
        ChessWire fresh = new ChessWire();
        for (int what = 2; what <= 6; what++) {
            Check.same("count(" + what + ") of a new object", fresh.count(what), 0);
        }
        Check.same("no finding yet", fresh.count(8), 0);
        Check.same("two kings", fresh.count(0), 2);
        Check.same("one white", fresh.count(1), 1);
        Check.same("all weights are 1", fresh.count(7), 3);
        String[] walk = {"a1", "b2", "h8", "g8", "b2", "c3", "g8", "h8", "c3", "d4", "h8", "g8", "d4", "e5", "g8", "h8",
            "e5", "f6"};
        for (int i = 0; i < walk.length; i += 2) {
            Check.same("a king's walk", fresh.play(Check.code(walk[i], walk[i + 1])), i / 2 + 1);
        }
        Check.same("kings keep apart", fresh.lawful(Check.code("h8", "g7")), 0);
        Check.same("but no further", fresh.moves(-1), 2);
        Check.same("NONE", ChessWire.NONE, -1);
        Check.same("BAD", ChessWire.BAD, -2);
        Check.same("NOT", ChessWire.NOT, -3);
        Check.same("FULL", ChessWire.FULL, -4);
    }

    private static void texts() {
        int[] room = {80, 10, 60};
        ChessWire wire = new ChessWire();
        for (int text = 0; text < 3; text++) {
            for (int i = 1; i <= room[text]; i++) {
                Check.same("type", wire.type(text, i % 2 == 0 ? 0 : 255), i);
            }
            Check.same("type beyond the room", wire.type(text, 97), ChessWire.FULL);
            Check.same("a wrong byte is BAD ahead of FULL", wire.type(text, 256), ChessWire.BAD);
            Check.same("count of bytes", wire.count(2 + text), room[text]);
        }
        Check.same("type below 0", wire.type(0, -1), ChessWire.BAD);
        Check.same("type of no text", wire.type(3, 65), ChessWire.BAD);
        Check.same("type of no text", wire.type(-1, 65), ChessWire.BAD);
        Check.same("wipe of no text", wire.wipe(3), ChessWire.BAD);
        Check.same("wipe of no text", wire.wipe(-1), ChessWire.BAD);
        Check.same("wipe", wire.wipe(1), 10);
        Check.same("the others stay", wire.wipe(2), 60);
        Check.same("wipe", wire.wipe(0), 80);
        Check.same("wipe again", wire.wipe(0), 0);
        Check.same("type after wipe", wire.type(1, 97), 1);
    }

    private static void fault(int text, String said, int due) {
        ChessWire wire = new ChessWire();
        Check.type(wire, text, said);
        Check.same("fault of '" + said + "'", wire.fault(text), due);
    }

    private static void faultsOfBoards() {
        fault(0, "", 0);
        fault(0, START, -1);
        fault(0, START.substring(0, 20), 20);
        fault(0, START + " ", START.length());
        fault(0, "8/8/8/8/8/8/8/8 w", 17);
        fault(0, "8/8/8/8/8/8/8/8 wx", 17);
        fault(0, "8/8/8/8/8/8/8/7K b", 18);
        fault(0, "8/8/8/8/8/8/8/7k b", 18);
        fault(0, "Kk6/8/8/8/8/8/8/8 b", -1);
        fault(0, "Kk6/8/8/8/8/8/8/8 x", 18);
        fault(0, "Kk6/8/8/8/8/8/8/8/", 17);
        fault(0, "Kk6/8/8/8/8/8/8 w", 15);
        fault(0, "KK", 1);
        fault(0, "kk", 1);
        fault(0, "Kk6/8/K", 6);
        fault(0, "0", 0);
        fault(0, "9", 0);
        fault(0, "44/", 3);
        fault(0, "45", 1);
        fault(0, "8P", 1);
        fault(0, "7PP", 2);
        fault(0, "7P1", 2);
        fault(0, "7/", 1);
        fault(0, "8 ", 1);
        fault(0, "/", 0);
        fault(0, " ", 0);
        fault(0, "11111111/PpNnBbRr/", 18);
        fault(0, "\u00ff", 0);
        Check.same("fault of no text", new ChessWire().fault(3), ChessWire.BAD);
        Check.same("fault of no text", new ChessWire().fault(-1), ChessWire.BAD);
    }

    private static void faultsOfSayings() {
        for (String sound : "e 4 Pe N4 e4 ee4 4e4 e2e4 Qe4 Qee4 Q4e4 Qe2e4 Kh8 a1h8".split(" ")) {
            fault(1, sound, -1);
        }
        fault(1, "", 0);
        fault(1, "P", 1);
        fault(1, "p", 0);
        fault(1, "i", 0);
        fault(1, "9", 0);
        fault(1, "ee", 2);
        fault(1, "eee", 2);
        fault(1, "e2e", 3);
        fault(1, "e22", 2);
        fault(1, "4e", 2);
        fault(1, "44", 1);
        fault(1, "4ee", 2);
        fault(1, "ee4e", 3);
        fault(1, "e2e4e", 4);
        fault(1, "Qe2e44", 5);
        fault(1, "QN", 1);
        fault(1, "e;", 1);
    }

    private static void faultsOfGames() {
        fault(2, "", -1);
        fault(2, "e", -1);
        fault(2, "e;", 2);
        fault(2, ";", 0);
        fault(2, "e;;", 2);
        fault(2, "e;Q", 3);
        fault(2, "Q;e", 1);
        fault(2, "a;b;c;d;e;f;g;h;a;b;c;d", -1);
        fault(2, "a;b;c;d;e;f;g;h;a;b;c;d;", 24);
        fault(2, "a;b;c;d;e;f;g;h;a;b;c;d;a;b", 24);
        fault(2, "a;b;c;d;e;f;g;h;a;b;c;d;;", 24);
        fault(2, "a1a1;a1a1;a1a1;a1a1;a1a1;a1a1;a1a1;a1a1;a1a1;a1a1;a1a1;a1a1", -1);
    }

    private static void squaresAndSide() {
        ChessWire wire = Check.on("kpnbrq2/8/8/8/8/8/8/KPNBRQ2 b");
        String white = "KPNBRQ";
        for (int i = 0; i < 6; i++) {
            Check.same("white man", wire.square(i), white.charAt(i));
            Check.same("black man", wire.square(56 + i), Character.toLowerCase(white.charAt(i)));
        }
        Check.same("nobody", wire.square(6), 0);
        Check.same("nobody", wire.square(63), 0);
        Check.same("no square", wire.square(64), ChessWire.BAD);
        Check.same("no square", wire.square(-1), ChessWire.BAD);
        Check.same("black is to move", wire.side(), 1);
        wire.type(0, ' ');
        Check.same("a fault: the kings alone", wire.square(1), 0);
        Check.same("a fault: white king", wire.square(0), 'K');
        Check.same("a fault: black king", wire.square(63), 'k');
        Check.same("a fault: white is to move", wire.side(), 0);
    }

    private static void lawfulMoves() {
        ChessWire wire = Check.on(START);
        Check.same("moves at the start", wire.moves(-1), 20);
        Check.same("the first", wire.moves(0), Check.code("b1", "a3"));
        Check.same("the second", wire.moves(1), Check.code("b1", "c3"));
        Check.same("the fifth", wire.moves(4), Check.code("a2", "a3"));
        Check.same("the last", wire.moves(19), Check.code("h2", "h4"));
        Check.same("beyond", wire.moves(20), ChessWire.NONE);
        Check.same("beyond", wire.moves(Integer.MAX_VALUE), ChessWire.NONE);
        Check.same("below NONE", wire.moves(-2), ChessWire.BAD);
        for (int i = 1; i < 20; i++) {
            Check.that("in order", wire.moves(i - 1) < wire.moves(i));
        }
        Check.same("lawful", wire.lawful(Check.code("e2", "e4")), 1);
        Check.same("black is not to move", wire.lawful(Check.code("e7", "e5")), 0);
        Check.same("a rook does not leap", wire.lawful(Check.code("a1", "a3")), 0);
        Check.same("own men are not taken", wire.lawful(Check.code("a1", "a2")), 0);
        Check.same("no move", wire.lawful(4096), ChessWire.BAD);
        Check.same("no move", wire.lawful(-1), ChessWire.BAD);

        ChessWire many = Check.on("R6R/3Q4/1Q4Q1/4Q3/2Q4Q/Q4Q2/pp1Q4/kBNN1KB1 w");
        Check.same("as many as in chess can be", many.moves(-1), 218);
        Check.same("the last of them", many.moves(217) / 64, 63);
        Check.same("a table of them", many.table(2), 38 * 7 + 180 * 8);

        ChessWire castle = Check.on("4k3/8/8/8/8/8/8/R3K2R w");
        Check.same("no castling", castle.lawful(Check.code("e1", "g1")), 0);
        Check.same("no castling", castle.lawful(Check.code("e1", "c1")), 0);

        ChessWire pinned = Check.on("4r2k/8/8/8/8/8/4N3/4K3 w");
        Check.same("a man who guards his king stays", pinned.moves(-1), 4);
        Check.same("the knight may not go", pinned.lawful(Check.code("e2", "c3")), 0);

        ChessWire one = Check.on("k7/8/8/3q4/8/8/8/K7 b");
        Check.same("a queen in the open, but for her king", one.moves(-1), 26 + 3);
    }

    private static void pawns() {
        ChessWire wire = Check.on("P6k/1p6/8/2n1n3/3P4/8/4p3/p1K4P w");
        Check.same("a pawn on its first row goes one", wire.lawful(Check.code("h1", "h2")), 1);
        Check.same("a pawn on its first row goes one", wire.lawful(Check.code("h1", "h3")), 0);
        Check.same("a pawn on the last row stays", wire.lawful(Check.code("a8", "b7")), 0);
        Check.same("aslant it takes", wire.lawful(Check.code("d4", "c5")), 1);
        Check.same("aslant it takes", wire.lawful(Check.code("d4", "e5")), 1);
        Check.same("ahead it goes", wire.lawful(Check.code("d4", "d5")), 1);
        Check.same("not two", wire.lawful(Check.code("d4", "d6")), 0);
        Check.same("play", wire.play(Check.code("d4", "d5")), 1);
        Check.same("black goes two from its second row", wire.lawful(Check.code("b7", "b5")), 1);
        Check.same("never back", wire.lawful(Check.code("b7", "b8")), 0);
        Check.same("a black pawn on the last row stays", wire.moves(0), Check.code("e2", "e1"));
        Check.same("play", wire.play(Check.code("e2", "e1")), 2);
        Check.same("it is a queen", wire.square(4), 'q');
        Check.same("and attacks", wire.state(), 1);

        ChessWire block = Check.on("k7/8/8/8/p7/1p6/PP6/K7 w");
        Check.same("two, but not over a man", block.lawful(Check.code("b2", "b4")), 0);
        Check.same("two, but not on a man", block.lawful(Check.code("a2", "a4")), 0);
        Check.same("one", block.lawful(Check.code("a2", "a3")), 1);
        Check.same("taking", block.lawful(Check.code("a2", "b3")), 1);

        ChessWire passing = Check.on("k7/3p4/8/4P3/8/8/8/K7 b");
        passing.play(Check.code("d7", "d5"));
        Check.same("no taking in passing", passing.lawful(Check.code("e5", "d6")), 0);

        ChessWire edge = Check.on("k7/8/8/7p/P7/8/8/K7 w");
        Check.same("no taking around the edge", edge.lawful(Check.code("a4", "h5")), 0);
        ChessWire taking = Check.on("1n5k/P7/8/8/8/8/8/K7 w");
        Check.same("a pawn takes on the last row", taking.play(Check.code("a7", "b8")), 1);
        Check.same("and is a queen", taking.square(57), 'Q');
    }

    private static void kingsThatAreTaken() {
        ChessWire wire = Check.on("k7/8/8/8/8/8/8/R6K w");
        Check.same("a king may be taken", wire.play(Check.code("a1", "a8")), 1);
        Check.same("none to move, not attacked", wire.state(), 3);
        Check.same("two men are left", wire.count(0), 2);

        ChessWire bare = Check.on("k7/p7/1p6/8/8/8/6B1/7K w");
        Check.same("taken", bare.play(Check.code("g2", "a8")), 1);
        Check.same("without a king all goes", bare.moves(-1), 3);
        Check.same("not attacked", bare.state(), 0);

        ChessWire both = Check.on("k7/8/1K6/8/8/8/8/R6r w");
        Check.same("one's own comes first", both.lawful(Check.code("a1", "a8")), 1);
        ChessWire open = Check.on("k7/8/8/8/8/8/8/KR5r w");
        Check.same("taking a king does not help one's own", open.lawful(Check.code("b1", "b8")), 0);
        ChessWire near = Check.on("8/8/8/8/8/8/1k6/K7 w");
        Check.same("a king takes a king", near.play(Check.code("a1", "b2")), 1);
        ChessWire guarded = Check.on("8/8/8/8/8/8/1k6/K6b w");
        Check.same("a guarded one too, if it is not attacked there", guarded.lawful(Check.code("a1", "b2")), 1);
        ChessWire struck = Check.on("8/8/8/8/8/2b5/1k6/K7 w");
        Check.same("not where another strikes", struck.lawful(Check.code("a1", "b2")), 0);
    }

    private static void states() {
        Check.same("quiet", Check.on(START).state(), 0);
        Check.same("attacked", Check.on("k7/8/8/8/8/8/8/R6K b").state(), 1);
        Check.same("mate", Check.on("7k/6Q1/6K1/8/8/8/8/8 b").state(), 2);
        Check.same("no moves", Check.on("7k/5Q2/6K1/8/8/8/8/8 b").state(), 3);
        Check.same("a white pawn attacks upward", Check.on("8/8/8/3k4/2P5/8/8/K7 b").state(), 1);
        Check.same("not downward", Check.on("8/8/2P5/3k4/8/8/8/K7 b").state(), 0);
        Check.same("a black pawn attacks downward", Check.on("k7/8/2p5/3K4/8/8/8/8 w").state(), 1);
        Check.same("not upward", Check.on("k7/8/8/3K4/2p5/8/8/8 w").state(), 0);
        Check.same("not ahead", Check.on("k7/8/3p4/3K4/8/8/8/8 w").state(), 0);
        Check.same("a knight attacks", Check.on("k7/8/2n5/4K3/8/8/8/8 w").state(), 1);
        Check.same("a bishop attacks", Check.on("k7/8/8/8/8/8/8/K6B b").state(), 1);
        Check.same("not through a man", Check.on("k7/8/8/8/4P3/8/8/K6B b").state(), 0);
        Check.same("a rook not aslant", Check.on("k7/8/8/8/8/8/8/K6R b").state(), 0);
        Check.same("kings attack", Check.on("kK6/8/8/8/8/8/8/8 b").state(), 1);
    }

    private static void playing() {
        ChessWire wire = Check.on(START);
        Check.same("play", wire.play(Check.code("g1", "f3")), 1);
        Check.same("play", wire.play(Check.code("d7", "d5")), 2);
        Check.same("not lawful", wire.play(Check.code("d5", "d4")), ChessWire.NOT);
        Check.same("no move", wire.play(4096), ChessWire.BAD);
        Check.same("no move", wire.play(-1), ChessWire.BAD);
        Check.same("f3", wire.square(21), 'N');
        Check.same("g1", wire.square(6), 0);
        Check.same("side", wire.side(), 0);
        Check.same("played", wire.count(5), 2);
    }

    private static void reading() {
        ChessWire wire = Check.on(START);
        wire.sheet(2, 1, 5);
        wire.lay(2, 1, 0, Check.code("e2", "e4"));
        wire.lay(2, 1, 1, Check.code("e7", "e5"));
        wire.lay(2, 1, 2, Check.code("g1", "f3"));
        wire.lay(2, 1, 3, -1);
        wire.lay(2, 1, 4, Check.code("b8", "c6"));
        Check.same("read as far as lawful", wire.read(2), 3);
        Check.same("played since", wire.count(5), 3);
        Check.same("read again: none", wire.read(2), 0);
        Check.same("lost", wire.read(0), -11);
        Check.same("finding", wire.count(8), 1);
        Check.same("no sheet", wire.read(4), ChessWire.BAD);
        Check.same("no sheet", wire.read(-1), ChessWire.BAD);
        wire.sheet(1, 0, 0);
        Check.same("an empty sheet", wire.read(1), 0);
        wire.sheet(1, 2, 1);
        wire.lay(1, 2, 0, 4096 + Check.code("b8", "c6"));
        Check.same("an item that is no move", wire.read(1), 0);
    }

    private static void goingHome() {
        ChessWire wire = Check.on(START);
        Check.same("nothing played", wire.home(), 0);
        wire.play(Check.code("e2", "e4"));
        Check.same("home", wire.home(), 1);
        Check.same("as its text says", wire.square(12), 'P');
        Check.same("white again", wire.side(), 0);
        wire.play(Check.code("e2", "e4"));
        wire.type(1, 'e');
        Check.same("text 1 leaves the board", wire.count(5), 1);
        wire.type(0, 256);
        Check.same("so does what is refused", wire.count(5), 1);
        wire.type(0, 'x');
        Check.same("a byte of text 0 does not", wire.count(5), 0);
        Check.same("a fault now", wire.count(0), 2);
        wire.play(Check.code("a1", "b1"));
        wire.wipe(0);
        Check.same("wiped", wire.square(0), 'K');
        wire.play(Check.code("a1", "b1"));
        wire.wipe(0);
        Check.same("wiped when empty", wire.square(0), 'K');
        Check.same("none played", wire.count(5), 0);
    }
}
