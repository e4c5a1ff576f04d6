/** Edges of promises 1 to 6: a new object, the texts, the board that text 0 tells. */
final class BoardEdges {
    static final String START = "rnbqkbnr/pppppppp/8/8/8/8/PPPPPPPP/RNBQKBNR w";

    private BoardEdges() {
    }

    static void addTo(Edges edges) {
        newObject(edges);
        typing(edges);
        roomOfTexts(edges);
        wiping(edges);
        endOfBoard(edges);
        kingsOfBoard(edges);
        rowsOfBoard(edges);
        behindRows(edges);
        faultyBoard(edges);
        backToText(edges);
        squares(edges);
    }

    private static void newObject(Edges edges) {
        edges.add("1 a new object: empty texts", () -> {
            ChessWire wire = new ChessWire();
            for (int text = 0; text < 3; text++) {
                Check.same("bytes", wire.count(2 + text), 0);
                Check.same("wipe", wire.wipe(text), 0);
            }
        });
        edges.add("1 a new object: all SHEETS are LOST", () -> {
            ChessWire wire = new ChessWire();
            for (int s = 0; s < 4; s++) {
                Check.same("lose", wire.lose(s), -11);
            }
        });
        edges.add("an object is used for at most 512 calls", () -> {
            ChessWire wire = new ChessWire();
            for (int round = 1; round <= 127; round++) {
                Check.same("out", wire.play(Check.code("a1b1")), 4 * round - 3);
                Check.same("out", wire.play(Check.code("h8g8")), 4 * round - 2);
                Check.same("back", wire.play(Check.code("b1a1")), 4 * round - 1);
                Check.same("back", wire.play(Check.code("g8h8")), 4 * round);
            }
            Check.same("moves", wire.moves(-1), 3);
            Check.same("the 510th call", wire.count(5), 508);
            Check.same("home", wire.home(), 508);
            Check.same("the 512th call", wire.state(), 0);
        });
    }

    private static void typing(Edges edges) {
        edges.add("2 type: a byte is 0 to 255, else BAD", () -> {
            ChessWire wire = new ChessWire();
            Check.same("0", wire.type(0, 0), 1);
            Check.same("255", wire.type(0, 255), 2);
            for (int b : new int[] {-1, 256, Integer.MIN_VALUE, Integer.MAX_VALUE}) {
                Check.same("byte " + b, wire.type(0, b), ChessWire.BAD);
            }
            Check.same("bytes", wire.count(2), 2);
        });
        edges.add("2 type: a text is 0 to 2, else BAD", () -> {
            ChessWire wire = new ChessWire();
            for (int text = 0; text < 3; text++) {
                Check.same("text " + text, wire.type(text, 'a'), 1);
            }
            for (int text : new int[] {-1, 3, Integer.MIN_VALUE, Integer.MAX_VALUE}) {
                Check.same("text " + text, wire.type(text, 'a'), ChessWire.BAD);
            }
        });
        edges.add("2 type: refused, it changes nothing", () -> {
            ChessWire wire = new ChessWire();
            fill(wire, 0, 80);
            wire.play(1);
            Check.same("FULL", wire.type(0, 'a'), ChessWire.FULL);
            Check.same("still played", wire.count(5), 1);
            Check.same("BAD", wire.type(0, 256), ChessWire.BAD);
            Check.same("still played", wire.count(5), 1);
            Check.same("as many bytes", wire.count(2), 80);
        });
    }

    private static void fill(ChessWire wire, int text, int room) {
        for (int i = 1; i <= room; i++) {
            Check.same("byte " + i, wire.type(text, 'a'), i);
        }
    }

    private static void isFullAt(int text, int room) {
        ChessWire wire = new ChessWire();
        fill(wire, text, room);
        Check.same("one more", wire.type(text, 'a'), ChessWire.FULL);
        Check.same("bytes", wire.count(2 + text), room);
        Check.same("wipe", wire.wipe(text), room);
        Check.same("there is room again", wire.type(text, 'a'), 1);
    }

    private static void roomOfTexts(Edges edges) {
        edges.add("2 type: text 0 is of up to 80 bytes, then FULL", () -> isFullAt(0, 80));
        edges.add("2 type: text 1 is of up to 10 bytes, then FULL", () -> isFullAt(1, 10));
        edges.add("2 type: text 2 is of up to 60 bytes, then FULL", () -> isFullAt(2, 60));
        edges.add("2 type: BAD comes ahead of FULL", () -> {
            ChessWire wire = new ChessWire();
            fill(wire, 1, 10);
            Check.same("a wrong byte", wire.type(1, 256), ChessWire.BAD);
            Check.same("a wrong byte", wire.type(1, -1), ChessWire.BAD);
        });
    }

    private static void wiping(Edges edges) {
        edges.add("3 wipe: how many bytes it had, 0 of an empty one", () -> {
            ChessWire wire = new ChessWire();
            fill(wire, 2, 60);
            Check.same("of a full one", wire.wipe(2), 60);
            Check.same("of an empty one", wire.wipe(2), 0);
            Check.same("bytes", wire.count(4), 0);
        });
        edges.add("3 wipe: a text is 0 to 2, else BAD", () -> {
            for (int text : new int[] {-1, 3, Integer.MIN_VALUE, Integer.MAX_VALUE}) {
                Check.same("text " + text, new ChessWire().wipe(text), ChessWire.BAD);
            }
        });
        edges.add("4 fault: a text is 0 to 2, else BAD", () -> {
            for (int text : new int[] {-1, 3, Integer.MIN_VALUE, Integer.MAX_VALUE}) {
                Check.same("text " + text, new ChessWire().fault(text), ChessWire.BAD);
            }
        });
    }

    private static void fault(String board, int due) {
        ChessWire wire = new ChessWire();
        Check.type(wire, 0, board);
        Check.same("'" + board + "'", wire.fault(0), due);
    }

    /** Byte by byte the end is the fault, until the whole stands. */
    private static void growsTo(String board) {
        ChessWire wire = new ChessWire();
        for (int i = 0; i < board.length(); i++) {
            Check.same("ahead of byte " + i + " of " + board, wire.fault(0), i);
            wire.type(0, board.charAt(i));
        }
        Check.same(board, wire.fault(0), ChessWire.NONE);
    }

    private static void endOfBoard(Edges edges) {
        edges.add("4 fault: of a shorter text 0 its end", () -> {
            growsTo(START);
            growsTo("1k6/8/8/8/8/8/8/6K1 b");
        });
        edges.add("4 fault: of an empty text 0 its end", () -> {
            fault("", 0);
            ChessWire wire = Check.on(START);
            wire.wipe(0);
            Check.same("wiped", wire.fault(0), 0);
        });
        edges.add("4 fault: the longest text 0 that is sound", () -> {
            growsTo("1k111111/11111111/pppppppp/11111111/11111111/PPPPPPPP/11111111/111111K1 w");
        });
        edges.add("4 fault: of text 0 the place of the byte behind w or b", () -> {
            fault(START + "w", 45);
            fault(START + " ", 45);
            fault("8/8/8/8/8/8/8/8 w/", 17);
        });
    }

    private static void kingsOfBoard(Edges edges) {
        edges.add("4 fault: of a second king of one colour", () -> {
            fault("KK", 1);
            fault("kk", 1);
            fault("Kk5K", 3);
            fault("K7/8/8/7K", 8);
            fault("k7/8/8/8/8/8/8/7k w", 16);
        });
        edges.add("4 fault: of the end, if a king is missing", () -> {
            fault("k7/8/8/8/8/8/8/8 w", 18);
            fault("K7/8/8/8/8/8/8/8 w", 18);
            fault("8/8/8/8/8/8/8/8 b", 17);
            fault("8/8/8/8/8/8/8/8", 15);
        });
        edges.add("4 fault: an earlier one comes ahead of a missing king", () -> {
            fault("8/8/8/8/8/8/8/9 w", 14);
            fault("8/8/8/8/8/8/8/8 x", 16);
        });
    }

    private static void rowsOfBoard(Edges edges) {
        edges.add("4 fault: of a figure beyond eight squares", () -> {
            fault("81", 1);
            fault("72", 1);
            fault("18", 1);
            fault("PPPPPPPP1", 8);
            fault("8/8/26/44/62/17/35/K6k1", 22);
            for (int rows = 0; rows < 8; rows++) {
                fault("8/".repeat(rows) + "81", 2 * rows + 1);
            }
        });
        edges.add("4 fault: of a MAN beyond eight squares", () -> {
            fault("8P", 1);
            fault("PPPPPPPPP", 8);
            fault("7Kk", 2);
            fault("8/8/44n", 6);
            for (int rows = 0; rows < 8; rows++) {
                fault("8/".repeat(rows) + "8Q", 2 * rows + 1);
            }
        });
        edges.add("4 fault: a figure is 1 to 8", () -> {
            fault("0", 0);
            fault("9", 0);
            fault("k70/", 2);
            fault("1", 1);
            fault("8", 1);
        });
        edges.add("4 fault: of text 0 a sign that is no MAN", () -> {
            for (char c : "AaOoLlSsZz.-\0\u00ff".toCharArray()) {
                fault("k" + c, 1);
            }
        });
        edges.add("4 fault: eight squares to a row, no fewer", () -> {
            fault("k/", 1);
            fault("k6/", 2);
            fault("/", 0);
            fault("k7//", 3);
            fault("k7/8/8/8/8/8/8/K6 w", 17);
        });
    }

    private static void behindRows(Edges edges) {
        edges.add("4 fault: eight rows, no fewer", () -> {
            fault("k7/8/8/8/8/8/K7 w", 15);
            fault("K6k w", 3);
        });
        edges.add("4 fault: eight rows, no more", () -> fault("k7/8/8/8/8/8/8/K7/8 w", 17));
        edges.add("4 fault: behind the rows a blank", () -> {
            fault("k7/8/8/8/8/8/8/K7w", 17);
            fault("k7/8/8/8/8/8/8/K7_w", 17);
        });
        edges.add("4 fault: behind the blank w or b", () -> {
            for (char c : "WB wk/8".toCharArray()) {
                fault("k7/8/8/8/8/8/8/K7 " + c, c == 'w' ? ChessWire.NONE : 18);
            }
        });
    }

    private static void isBare(ChessWire wire) {
        for (int square = 0; square < 64; square++) {
            Check.same("square " + square, wire.square(square), square == 0 ? 'K' : square == 63 ? 'k' : 0);
        }
        Check.same("men", wire.count(0), 2);
        Check.same("white men", wire.count(1), 1);
        Check.same("white is to move", wire.side(), 0);
        Check.same("moves", wire.moves(-1), 3);
    }

    private static void faultyBoard(Edges edges) {
        edges.add("with a FAULT a white king on a1, a black one on h8, white to move", () -> {
            isBare(new ChessWire());
            ChessWire wire = Check.on("rnbqkbnr/pppppppp/8/8/8/8/PPPPPPPP/RNBQKBNR b");
            Check.same("black is to move", wire.side(), 1);
            wire.type(0, ' ');
            isBare(wire);
            Check.retype(wire, 0, "QQQQQQQk/8/8/8/8/8/8/QQQQQQQQ b");
            isBare(wire);
        });
    }

    private static void backToText(Edges edges) {
        edges.add("the board is as text 0 says again whenever a byte of it is told", () -> {
            ChessWire wire = new ChessWire();
            wire.play(1);
            Check.same("a fault before and behind", wire.type(0, 'k'), 1);
            isBare(wire);
            Check.same("none played", wire.count(5), 0);
            String most = "k7/8/8/8/8/8/8/K7 ";
            Check.retype(wire, 0, most);
            wire.play(1);
            Check.same("the first of black's moves", wire.moves(0), Check.code("h8g7"));
            Check.same("the byte that makes it whole", wire.type(0, 'b'), most.length() + 1);
            Check.same("black is to move", wire.side(), 1);
            Check.same("the first of black's moves", wire.moves(0), Check.code("a8a7"));
            Check.same("none played", wire.count(5), 0);
            Check.same("where it stands", wire.square(56), 'k');
        });
        edges.add("the board is as text 0 says again when it is wiped, an empty one too", () -> {
            ChessWire wire = Check.on(START);
            wire.play(Check.code("e2e4"));
            wire.wipe(0);
            isBare(wire);
            wire.play(1);
            wire.wipe(0);
            isBare(wire);
            Check.same("none played", wire.count(5), 0);
        });
        edges.add("bytes of other texts leave the board", () -> {
            ChessWire wire = Check.on(START);
            wire.play(Check.code("e2e4"));
            wire.type(1, 'e');
            wire.type(2, 'e');
            wire.wipe(1);
            wire.wipe(2);
            wire.wipe(3);
            Check.same("played", wire.count(5), 1);
            Check.same("e4", wire.square(28), 'P');
        });
    }

    private static void squares(Edges edges) {
        edges.add("5 square: 0 is a1, 1 b1, 8 a2, 63 h8", () -> {
            ChessWire wire = Check.on("6nk/8/8/8/8/8/B7/KR6 w");
            Check.same("a1", wire.square(0), 'K');
            Check.same("b1", wire.square(1), 'R');
            Check.same("a2", wire.square(8), 'B');
            Check.same("g8", wire.square(62), 'n');
            Check.same("h8", wire.square(63), 'k');
        });
        edges.add("5 square: 0: nobody", () -> {
            ChessWire wire = Check.on(START);
            Check.same("a3", wire.square(16), 0);
            wire.play(Check.code("e2e4"));
            Check.same("e2", wire.square(12), 0);
            wire.play(Check.code("d7d5"));
            wire.play(Check.code("e4d5"));
            Check.same("e4", wire.square(28), 0);
        });
        edges.add("5 square: it is 0 to 63, else BAD", () -> {
            for (int square : new int[] {-1, 64, Integer.MIN_VALUE, Integer.MAX_VALUE}) {
                Check.same("square " + square, new ChessWire().square(square), ChessWire.BAD);
            }
        });
        edges.add("6 side: 0: white is to move; 1: black", () -> {
            Check.same("w", Check.on("k7/8/8/8/8/8/8/K7 w").side(), 0);
            ChessWire black = Check.on("k7/8/8/8/8/8/8/K7 b");
            Check.same("b", black.side(), 1);
            black.play(Check.code("a8b8"));
            Check.same("white again", black.side(), 0);
        });
    }
}
