import java.util.Arrays;
import java.util.List;

/** Edges of promises 7 to 12: lawful moves, and playing them. */
final class MoveEdges {
    private static final String START = BoardEdges.START;
    private static final String STALEMATE = "7k/5Q2/6K1/8/8/8/8/8 b";

    private MoveEdges() {
    }

    static void addTo(Edges edges) {
        asking(edges);
        allMen(edges);
        pawnsAhead(edges);
        pawnsTaking(edges);
        lastRows(edges);
        notAllowed(edges);
        ownKing(edges);
        states(edges);
        playing(edges);
        reading(edges);
        readingItems(edges);
        goingHome(edges);
    }

    private static void asking(Edges edges) {
        edges.add("7 moves: how many, 0 of none", () -> {
            Check.same("at the start", Check.on(START).moves(ChessWire.NONE), 20);
            Check.same("none", Check.on(STALEMATE).moves(ChessWire.NONE), 0);
            ChessWire many = Check.on("R6R/3Q4/1Q4Q1/4Q3/2Q4Q/Q4Q2/pp1Q4/kBNN1KB1 w");
            Check.same("as many as in chess can be", many.moves(ChessWire.NONE), 218);
            Check.same("the last is there", many.moves(217) / 64, Check.square("h8"));
        });
        edges.add("7 moves: the i-th, 0 on; NONE beyond", () -> {
            ChessWire wire = Check.on(START);
            Check.same("the first", wire.moves(0), Check.code("b1a3"));
            Check.same("the last", wire.moves(19), Check.code("h2h4"));
            Check.same("beyond", wire.moves(20), ChessWire.NONE);
            Check.same("beyond", wire.moves(Integer.MAX_VALUE), ChessWire.NONE);
            Check.same("of none", Check.on(STALEMATE).moves(0), ChessWire.NONE);
        });
        edges.add("7 moves: BAD: also i below NONE", () -> {
            Check.same("-2", new ChessWire().moves(-2), ChessWire.BAD);
            Check.same("the least", new ChessWire().moves(Integer.MIN_VALUE), ChessWire.BAD);
        });
        edges.add("8 lawful: a MOVE is 0 to 4095, else BAD", () -> {
            ChessWire wire = new ChessWire();
            Check.same("0", wire.lawful(0), 0);
            Check.same("4095", wire.lawful(4095), 0);
            for (int move : new int[] {-1, 4096, 4097, Integer.MIN_VALUE, Integer.MAX_VALUE}) {
                Check.same("move " + move, wire.lawful(move), ChessWire.BAD);
            }
        });
        edges.add("8 lawful: 1, 0", () -> {
            Check.same("a1b1", new ChessWire().lawful(1), 1);
            Check.same("a1c1", new ChessWire().lawful(2), 0);
        });
    }

    /** A board with nobody but the two kings and those that are told, by man and square. */
    private static PlainWire.Place with(int whiteKing, int blackKing, Object... others) {
        PlainWire.Place at = new PlainWire.Place();
        Arrays.fill(at.men, '.');
        at.men[whiteKing] = 'K';
        at.men[blackKing] = 'k';
        for (int i = 0; i < others.length; i += 2) {
            at.men[(int) others[i + 1]] = (char) others[i];
        }
        return at;
    }

    private static void isLikePlain(PlainWire.Place at) {
        String text = at.text();
        ChessWire wire = Check.on(text);
        List<Integer> due = at.moves();
        Check.same("moves of " + text, wire.moves(ChessWire.NONE), due.size());
        for (int i = 0; i < due.size(); i++) {
            Check.same("a move of " + text, wire.moves(i), due.get(i));
        }
    }

    private static int corner(int... taken) {
        for (int square : new int[] {0, 7, 56, 63}) {
            if (Arrays.stream(taken).noneMatch(one -> one == square)) {
                return square;
            }
        }
        return 1;
    }

    private static void allMen(Edges edges) {
        edges.add("MOVES of each MAN from each SQUARE go as far as the board", () -> {
            for (char man : "PNBRQpnbrq".toCharArray()) {
                for (int square = 0; square < 64; square++) {
                    int white = corner(square);
                    PlainWire.Place at = with(white, corner(square, white), man, square);
                    at.white = Character.isUpperCase(man);
                    isLikePlain(at);
                }
            }
        });
        edges.add("each MAN attacks as far as the board", () -> {
            for (char man : "PNBRQpnbrq".toCharArray()) {
                for (int i = 0; i < 64 * 63; i++) {
                    int square = i % 64;
                    int king = (square + 1 + i / 64) % 64;
                    boolean white = Character.isLowerCase(man);
                    int other = corner(square, king);
                    PlainWire.Place at = with(white ? king : other, white ? other : king, man, square);
                    at.white = white;
                    Check.same("attacked on " + at.text(), Check.on(at.text()).state() % 3 == 0 ? 0 : 1,
                        at.attacked(white) ? 1 : 0);
                }
            }
        });
        edges.add("pawns take to both sides up to the edge of the board, stopped ones do not go ahead", () -> {
            for (String side : new String[] {" w", " b"}) {
                ChessWire wire = Check.on("k7/8/8/pppppppp/PPPPPPPP/8/8/K7" + side);
                Check.same("pawns and king" + side, wire.moves(ChessWire.NONE), 14 + 3);
            }
        });
    }

    private static void pawnsAhead(Edges edges) {
        edges.add("a pawn may go two squares on its second row alone", () -> {
            ChessWire white = Check.on("k7/8/8/8/8/3P4/4P3/K4P2 w");
            Check.lawful(white, "e2e4", true);
            Check.lawful(white, "d3d5", false);
            Check.lawful(white, "f1f3", false);
            Check.lawful(white, "f1f2", true);
            Check.lawful(white, "e2e5", false);
            ChessWire black = Check.on("k4p2/4p3/3p4/8/8/8/8/K7 b");
            Check.lawful(black, "e7e5", true);
            Check.lawful(black, "d6d4", false);
            Check.lawful(black, "f8f6", false);
            Check.lawful(black, "f8f7", true);
        });
        edges.add("a pawn goes two squares, if both are empty", () -> {
            ChessWire white = Check.on("k7/8/8/8/1n6/p7/PPP5/7K w");
            Check.lawful(white, "a2a4", false);
            Check.lawful(white, "a2a3", false);
            Check.lawful(white, "b2b4", false);
            Check.lawful(white, "b2b3", true);
            Check.lawful(white, "c2c4", true);
            ChessWire black = Check.on("7k/ppp5/P7/1N6/8/8/8/K7 b");
            Check.lawful(black, "a7a5", false);
            Check.lawful(black, "b7b5", false);
            Check.lawful(black, "b7b6", true);
            Check.lawful(black, "c7c5", true);
        });
    }

    private static void pawnsTaking(Edges edges) {
        edges.add("a pawn takes aslant, none of its own, not over the edge of the board", () -> {
            ChessWire white = Check.on("k7/8/p7/8/P1n1N2p/p2P3P/7P/7K w");
            Check.lawful(white, "d3c4", true);
            Check.lawful(white, "d3e4", false);
            Check.lawful(white, "d3d4", true);
            Check.lawful(white, "a4b5", false);
            Check.lawful(white, "a4h4", false);
            Check.retype(white, 0, "k7/8/p7/8/7P/8/8/7K w");
            Check.lawful(white, "h4a6", false);
            ChessWire black = Check.on("7k/8/8/P6p/8/8/8/K7 b");
            Check.lawful(black, "h5a5", false);
            Check.lawful(black, "h5g4", false);
            Check.retype(black, 0, "7k/8/8/p7/8/7P/8/K7 b");
            Check.lawful(black, "a5h3", false);
        });
        edges.add("men do not go over the edge of the board", () -> {
            Check.same("king a1", Check.on("7k/8/8/8/8/8/8/K7 w").moves(-1), 3);
            Check.same("king h1", Check.on("k7/8/8/8/8/8/8/7K w").moves(-1), 3);
            Check.same("knight h8 and king", Check.on("7N/8/8/8/8/k7/8/7K w").moves(-1), 2 + 3);
            Check.same("knight a4 and king", Check.on("7k/8/8/8/N7/8/8/7K w").moves(-1), 4 + 3);
            Check.same("bishop a4 and king", Check.on("7k/8/8/8/B7/8/8/7K w").moves(-1), 7 + 3);
            Check.same("rook h4 and king", Check.on("k7/8/8/8/7R/8/8/K7 w").moves(-1), 14 + 3);
        });
    }

    private static void lastRows(Edges edges) {
        edges.add("on the last row a pawn becomes a queen", () -> {
            ChessWire wire = Check.on("1r5k/P7/8/8/8/8/6p1/K6N w");
            wire.play(Check.code("a7b8"));
            Check.same("b8", wire.square(57), 'Q');
            Check.same("black is attacked", wire.state(), 1);
            Check.retype(wire, 0, "1r5k/P7/8/8/8/8/6p1/K6N b");
            wire.play(Check.code("g2h1"));
            Check.same("h1", wire.square(7), 'q');
            Check.retype(wire, 0, "7k/8/P7/8/8/8/8/K7 w");
            wire.play(Check.code("a6a7"));
            Check.same("a7, not yet", wire.square(48), 'P');
        });
        edges.add("a pawn on the last row by the text stays one, without MOVES", () -> {
            ChessWire white = Check.on("P6k/1r6/8/8/8/8/8/K7 w");
            Check.same("a8", white.square(56), 'P');
            Check.same("the king's alone", white.moves(-1), 1);
            Check.same("he goes to a2", white.moves(0), Check.code("a1a2"));
            ChessWire black = Check.on("7k/8/8/8/8/8/1R6/p6K b");
            Check.same("a1", black.square(0), 'p');
            Check.same("the king's alone", black.moves(-1), 3);
        });
    }

    private static void notAllowed(Edges edges) {
        edges.add("without castling", () -> {
            ChessWire wire = Check.on("r3k2r/8/8/8/8/8/8/R3K2R w");
            Check.lawful(wire, "e1g1", false);
            Check.lawful(wire, "e1c1", false);
            Check.lawful(wire, "e1f1", true);
            wire.play(Check.code("a1b1"));
            Check.lawful(wire, "e8g8", false);
            Check.lawful(wire, "e8c8", false);
        });
        edges.add("without taking in passing", () -> {
            ChessWire wire = Check.on("k7/3p4/8/4P3/8/8/8/K7 b");
            wire.play(Check.code("d7d5"));
            Check.lawful(wire, "e5d6", false);
            Check.lawful(wire, "e5e6", true);
        });
    }

    /** A knight on each square between a king and a queen, who stands on each square that way. */
    private static void standBetween(int king, int columns, int rows) {
        for (int far = 2; far < 8; far++) {
            int column = king % 8 + far * columns;
            int row = king / 8 + far * rows;
            if (columns == 0 && rows == 0 || column < 0 || column > 7 || row < 0 || row > 7) {
                return;
            }
            int queen = row * 8 + column;
            for (int near = 1; near < far; near++) {
                int knight = king + near * (rows * 8 + columns);
                isLikePlain(with(king, corner(king, knight, queen), 'N', knight, 'q', queen));
            }
        }
    }

    private static void ownKing(Edges edges) {
        edges.add("lawful, if one's own king is not attacked behind it", () -> {
            ChessWire wire = Check.on("k3r3/8/8/b7/8/2N5/4R2r/4K3 w");
            Check.lawful(wire, "c3d5", false);
            Check.lawful(wire, "e2e8", true);
            Check.lawful(wire, "e2h2", false);
            Check.lawful(wire, "e1f1", true);
            Check.lawful(wire, "e1f2", false);
            ChessWire attacked = Check.on("k7/8/8/8/8/1N6/8/K6r w");
            Check.lawful(attacked, "b3c1", true);
            Check.lawful(attacked, "b3d2", false);
            Check.lawful(attacked, "a1b1", false);
        });
        edges.add("a man between his king and one who attacks along the line stays on it", () -> {
            for (int king = 0; king < 64; king++) {
                for (int way = 0; way < 9; way++) {
                    standBetween(king, way % 3 - 1, way / 3 - 1);
                }
            }
        });
        edges.add("a king that was taken is not attacked", () -> {
            ChessWire wire = Check.on("k7/1p5p/8/8/8/8/R7/RK5R w");
            Check.same("taken", wire.play(Check.code("a2a8")), 1);
            Check.same("not attacked", wire.state(), 0);
            Check.same("all that are left may go", wire.moves(-1), 4);
            Check.same("on they go", wire.play(Check.code("b7b5")), 2);
            Check.same("so does white", wire.play(Check.code("a8h8")), 3);
            ChessWire black = Check.on("rk5r/r7/8/8/8/8/1P5P/K7 b");
            Check.same("taken", black.play(Check.code("a7a1")), 1);
            Check.same("not attacked", black.state(), 0);
            Check.same("all that are left may go", black.moves(-1), 4);
        });
        edges.add("a king that takes a king is attacked by the others alone", () -> {
            Check.lawful(Check.on("8/8/8/8/8/8/1k6/K7 w"), "a1b2", true);
            Check.lawful(Check.on("8/8/8/8/8/2b5/1k6/K7 w"), "a1b2", false);
            Check.lawful(Check.on("k7/8/8/8/8/8/8/KR5r w"), "b1b8", false);
        });
    }

    private static void states(Edges edges) {
        edges.add("9 state: 0: not attacked, has MOVES", () -> Check.same("start", Check.on(START).state(), 0));
        edges.add("9 state: 1: attacked", () -> {
            Check.same("he can go", Check.on("k7/8/8/8/8/8/8/R6K b").state(), 1);
            Check.same("another can help", Check.on("k3R3/pp1r4/8/8/8/8/8/7K b").state(), 1);
        });
        edges.add("9 state: 2: mate", () -> {
            Check.same("mate", Check.on("7k/6Q1/6K1/8/8/8/8/8 b").state(), 2);
            Check.same("no mate, he takes", Check.on("7k/6Q1/5K2/8/8/8/6r1/8 b").state(), 1);
        });
        edges.add("9 state: 3: not attacked, no MOVES", () -> {
            Check.same("no moves", Check.on(STALEMATE).state(), 3);
            ChessWire alone = Check.on("k7/8/8/8/8/8/8/R6K w");
            alone.play(Check.code("a1a8"));
            Check.same("nobody is left", alone.state(), 3);
        });
    }

    private static void playing(Edges edges) {
        edges.add("10 play: a MOVE is 0 to 4095, else BAD", () -> {
            for (int move : new int[] {-1, 4096, 4097, Integer.MIN_VALUE, Integer.MAX_VALUE}) {
                Check.same("move " + move, new ChessWire().play(move), ChessWire.BAD);
            }
        });
        edges.add("10 play: NOT: it is not lawful, and nothing changes", () -> {
            ChessWire wire = new ChessWire();
            Check.same("0", wire.play(0), ChessWire.NOT);
            Check.same("4095", wire.play(4095), ChessWire.NOT);
            Check.same("none played", wire.count(5), 0);
            Check.same("white is to move", wire.side(), 0);
        });
        edges.add("10 play: how many since the text", () -> {
            ChessWire wire = new ChessWire();
            Check.same("one", wire.play(1), 1);
            Check.same("refused", wire.play(1), ChessWire.NOT);
            Check.same("two", wire.play(Check.code("h8g8")), 2);
            wire.wipe(0);
            Check.same("one again", wire.play(1), 1);
        });
    }

    private static void row(ChessWire wire, int s, int form, int... items) {
        wire.sheet(s, form, items.length);
        for (int i = 0; i < items.length; i++) {
            Check.same("lay", wire.lay(s, form, i, items[i]), 1);
        }
    }

    private static void reading(Edges edges) {
        edges.add("11 read: a SHEET is 0 to 3, else BAD", () -> {
            for (int s : new int[] {-1, 4, Integer.MIN_VALUE, Integer.MAX_VALUE}) {
                Check.same("sheet " + s, new ChessWire().read(s), ChessWire.BAD);
            }
        });
        edges.add("11 read: NULL", () -> {
            ChessWire wire = new ChessWire();
            Check.same("lost", wire.read(3), -11);
            Check.same("count 8", wire.count(8), 1);
        });
        edges.add("11 read: as long as each is lawful", () -> {
            ChessWire wire = new ChessWire();
            row(wire, 0, 1, Check.code("a1b1"), Check.code("h8g8"), Check.code("h8g8"), Check.code("b1a1"));
            Check.same("two", wire.read(0), 2);
            Check.same("played", wire.count(5), 2);
            Check.same("b1", wire.square(1), 'K');
            Check.same("none is lawful now", wire.read(0), 0);
            row(wire, 1, 1, Check.code("b1a1"), Check.code("g8h8"));
            Check.same("all", wire.read(1), 2);
            Check.same("played", wire.count(5), 4);
        });
        edges.add("11 read: a SHEET of no items", () -> {
            ChessWire wire = new ChessWire();
            wire.sheet(0, 2, 0);
            Check.same("none", wire.read(0), 0);
            Check.same("no finding", wire.count(8), 0);
        });
    }

    private static void readingItems(Edges edges) {
        edges.add("11 read: items that are no MOVES are not lawful", () -> {
            for (int item : new int[] {-1, -4095, 4096, 4097, 65536 + 1, Integer.MIN_VALUE, Integer.MAX_VALUE}) {
                ChessWire wire = new ChessWire();
                row(wire, 0, 2, item, 1);
                Check.same("item " + item, wire.read(0), 0);
                Check.same("none played", wire.count(5), 0);
            }
        });
        edges.add("11 read: by SHEETS of every FORM", () -> {
            for (int form = 0; form < 3; form++) {
                ChessWire wire = new ChessWire();
                row(wire, form, form, Check.code("a1b1"), Check.code("h8g8"));
                Check.same("form " + form, wire.read(form), form == 0 ? 1 : 2);
            }
        });
    }

    private static void goingHome(Edges edges) {
        edges.add("12 home: how many MOVES had been played, 0 of none", () -> {
            ChessWire wire = Check.on(START);
            Check.same("none", wire.home(), 0);
            wire.play(Check.code("e2e4"));
            wire.play(Check.code("e7e5"));
            Check.same("two", wire.home(), 2);
            Check.same("none any more", wire.home(), 0);
            Check.same("count 5", wire.count(5), 0);
        });
        edges.add("12 home: the board is as its text says again", () -> {
            ChessWire wire = Check.on(START);
            long before = wire.digest();
            wire.play(Check.code("e2e4"));
            wire.home();
            Check.same("digest", wire.digest(), before);
            ChessWire faulty = new ChessWire();
            faulty.play(Check.code("a1b1"));
            faulty.home();
            Check.same("a1", faulty.square(0), 'K');
            Check.same("white is to move", faulty.side(), 0);
        });
    }
}
