/** Edges of promises 13 to 18: what is said of moves, weights, tables. */
final class SayingEdges {
    private static final String START = BoardEdges.START;
    private static final String STALEMATE = "7k/5Q2/6K1/8/8/8/8/8 b";
    private static final String ONE_MOVE = "K1k5/8/8/8/8/8/8/8 w";

    private SayingEdges() {
    }

    static void addTo(Edges edges) {
        faults(edges);
        faultsOfSigns(edges);
        shortest(edges);
        leastByBytes(edges);
        means(edges);
        meansByParts(edges);
        could(edges);
        weights(edges);
        tables(edges);
        leastTables(edges);
    }

    private static void fault(String said, int due) {
        ChessWire wire = new ChessWire();
        Check.type(wire, 1, said);
        Check.same("'" + said + "'", wire.fault(1), due);
    }

    private static void faults(Edges edges) {
        edges.add("4 fault: of no SAYING its end", () -> fault("", 0));
        edges.add("4 fault: of a shorter SAYING its end", () -> {
            fault("K", 1);
            fault("ee", 2);
            fault("4e", 2);
            fault("e2e", 3);
            fault("Kee", 3);
            fault("Ke2e", 4);
        });
        edges.add("a SAYING is a row of 1 to 5 signs", () -> {
            for (String sound : "a h 1 8 Pa K8 e4 ae4 1e4 Nae4 R8e4 a1h8 Qa1h8".split(" ")) {
                fault(sound, ChessWire.NONE);
            }
            fault("Qa1h8a", 5);
            fault("Qa1h88", 5);
            fault("Qa1h8Qa1h8", 5);
        });
    }

    private static void faultsOfSigns(Edges edges) {
        edges.add("4 fault: a MAN is PNBRQK, no small letter", () -> {
            for (char c : "pnrqkACLOSZ".toCharArray()) {
                fault(c + "4", 0);
            }
            for (char c : "PNBRQK".toCharArray()) {
                fault(c + "4", ChessWire.NONE);
            }
            fault("KK", 1);
            fault("eK", 1);
        });
        edges.add("4 fault: a column is a to h", () -> {
            fault("`", 0);
            fault("i", 0);
            fault("Ni", 1);
            fault("a1i", 2);
        });
        edges.add("4 fault: a row is 1 to 8", () -> {
            fault("0", 0);
            fault("9", 0);
            fault("a0", 1);
            fault("a9", 1);
            fault("a1h9", 3);
        });
        edges.add("4 fault: of SAYINGS with signs in another order", () -> {
            fault("44", 1);
            fault("4e44", 3);
            fault("e22", 2);
            fault("eee", 2);
            fault("4ee", 2);
            fault("N44", 2);
            fault("e4Ne5", 2);
        });
    }

    private static void isShortest(String board, String move, String due) {
        ChessWire wire = Check.on(board);
        int code = Check.code(move);
        Check.same("signs for " + move, wire.shortest(code, ChessWire.NONE), due.length());
        for (int i = 0; i < due.length(); i++) {
            Check.same("sign " + i + " for " + move, wire.shortest(code, i), due.charAt(i));
        }
    }

    private static void shortest(Edges edges) {
        edges.add("13 shortest: the i-th as a byte, 0 on; NONE beyond", () -> {
            isShortest("6k1/8/2Q1Q3/8/2Q1Q3/8/7K/8 w", "c6d5", "c6d5");
            isShortest("7k/8/8/8/1R5R/8/8/K7 w", "b4d4", "bd4");
            isShortest("7k/8/8/8/1R5R/8/8/K7 w", "h4d4", "hd4");
            ChessWire wire = Check.on(ONE_MOVE);
            int move = Check.code("a8a7");
            Check.same("one sign", wire.shortest(move, 0), '7');
            Check.same("beyond", wire.shortest(move, 1), ChessWire.NONE);
            Check.same("beyond", wire.shortest(move, Integer.MAX_VALUE), ChessWire.NONE);
            Check.retype(wire, 0, "6k1/8/2Q1Q3/8/2Q1Q3/8/7K/8 w");
            Check.same("beyond four", wire.shortest(Check.code("c6d5"), 4), ChessWire.NONE);
        });
        edges.add("13 shortest: a MOVE is 0 to 4095, else BAD", () -> {
            for (int move : new int[] {-1, 4096, 4097, Integer.MIN_VALUE, Integer.MAX_VALUE}) {
                Check.same("move " + move, new ChessWire().shortest(move, ChessWire.NONE), ChessWire.BAD);
            }
        });
        edges.add("13 shortest: BAD: also i below NONE", () -> {
            Check.same("-2", new ChessWire().shortest(1, -2), ChessWire.BAD);
            Check.same("the least", new ChessWire().shortest(1, Integer.MIN_VALUE), ChessWire.BAD);
        });
        edges.add("13 shortest: NOT: it is not lawful", () -> {
            Check.same("0", new ChessWire().shortest(0, ChessWire.NONE), ChessWire.NOT);
            Check.same("4095", new ChessWire().shortest(4095, 99), ChessWire.NOT);
        });
        edges.add("13 shortest: BAD comes ahead of NOT", () -> {
            Check.same("not lawful, i below NONE", new ChessWire().shortest(0, -2), ChessWire.BAD);
        });
        edges.add("14 all: 0 of no MOVES", () -> {
            Check.same("none", Check.on(STALEMATE).all(), 0);
            Check.same("one", Check.on(ONE_MOVE).all(), 1);
            Check.same("Ka1b1 1, a1a2 a, a1b2 b2", new ChessWire().all(), 4);
        });
    }

    private static void leastByBytes(Edges edges) {
        String queenAndRook = "8/8/8/Q7/8/5k2/8/2K1R3 w";
        edges.add("SHORTEST of one sign: of like ones the least", () -> {
            isShortest("8/8/8/8/7B/8/3k4/5K2 w", "h4d8", "8");
        });
        edges.add("SHORTEST of two signs: of like ones the least", () -> {
            isShortest(queenAndRook, "e1e2", "R2");
            isShortest("8/8/2Q5/5k2/8/8/4N3/3K4 w", "d1e1", "Ke");
            isShortest("8/8/2P5/8/2N1B1Q1/2k5/8/K4R2 w", "a1b1", "K1");
        });
        edges.add("SHORTEST of three signs: of like ones the least", () -> {
            isShortest("8/1N1R4/8/8/8/1k1K4/8/8 w", "d3d4", "3d4");
            isShortest(queenAndRook, "c1d1", "Kd1");
            isShortest("8/3k4/Q4Q2/4Q3/8/K1R5/8/8 w", "e5e2", "5e2");
        });
        edges.add("SHORTEST of four signs: of like ones the least", () -> {
            isShortest("5R2/8/6P1/8/7Q/8/2k1KR2/8 w", "f2f3", "R2f3");
            isShortest("6B1/N5B1/Q3Q1K1/8/8/1P6/3k4/8 w", "a6c6", "Qac6");
            isShortest("8/4P1NQ/5k2/P1Q5/1Q5K/8/8/8 w", "h7h5", "Q7h5");
        });
    }

    private static void means(ChessWire wire, String said, String... due) {
        Check.retype(wire, 1, said);
        Check.same("'" + said + "' how many", wire.means(ChessWire.NONE), due.length);
        for (int i = 0; i < due.length; i++) {
            Check.same("'" + said + "' " + i, wire.means(i), Check.code(due[i]));
        }
        Check.same("'" + said + "' beyond", wire.means(due.length), ChessWire.NONE);
    }

    private static void means(Edges edges) {
        edges.add("15 means: how many: one, none, several", () -> {
            ChessWire wire = Check.on(START);
            means(wire, "Nf", "g1f3");
            means(wire, "N5");
            means(wire, "a", "b1a3", "a2a3", "a2a4");
        });
        edges.add("15 means: the i-th, 0 on; NONE beyond", () -> {
            ChessWire wire = Check.on(START);
            means(wire, "N3", "b1a3", "b1c3", "g1f3", "g1h3");
            Check.same("far beyond", wire.means(Integer.MAX_VALUE), ChessWire.NONE);
        });
        edges.add("15 means: BAD: also i below NONE", () -> {
            Check.same("-2", new ChessWire().means(-2), ChessWire.BAD);
            Check.same("the least", new ChessWire().means(Integer.MIN_VALUE), ChessWire.BAD);
        });
        edges.add("with a FAULT THE SAYING means nothing", () -> {
            ChessWire wire = Check.on(START);
            for (String said : new String[] {"", "N", "Nff", "e4x", "e4;", "ne", "N3N3", "e44", "i", "0", "44"}) {
                means(wire, said);
            }
        });
    }

    private static void meansByParts(Edges edges) {
        edges.add("a SAYING FITS by the MAN as it stands ahead of the MOVE", () -> {
            ChessWire wire = Check.on("8/P6k/8/8/8/8/8/K7 w");
            means(wire, "P8", "a7a8");
            means(wire, "Q8");
            means(wire, "Pa7a8", "a7a8");
            means(wire, "Qa7a8");
            Check.type(wire, 2, "P8");
            Check.same("in a game", wire.played(1), 1);
            Check.retype(wire, 2, "Q8");
            Check.same("in a game", wire.played(1), 0);
        });
        edges.add("one sign is a column or a row that the MOVE goes to", () -> {
            ChessWire wire = Check.on("k7/8/8/8/8/8/8/1R5K w");
            means(wire, "h", "h1h2");
            means(wire, "8", "b1b8");
            means(wire, "Kg", "h1g1", "h1g2");
            means(wire, "R7", "b1b7");
        });
        edges.add("the last two signs are what it goes to, those ahead what it is from", () -> {
            ChessWire wire = Check.on("k7/8/8/8/8/8/8/1R5K w");
            means(wire, "b8", "b1b8");
            means(wire, "b1");
            means(wire, "bb8", "b1b8");
            means(wire, "1b8", "b1b8");
            means(wire, "hb8");
            means(wire, "2b8");
            means(wire, "b1b8", "b1b8");
            means(wire, "b2b8");
            means(wire, "a1b8");
            means(wire, "Rb1b8", "b1b8");
            means(wire, "Kb1b8");
        });
        edges.add("the letter of a MAN is of either colour", () -> {
            ChessWire wire = Check.on("k7/8/8/8/8/8/8/7K b");
            means(wire, "Ka", "a8a7");
            means(wire, "K8", "a8b8");
            Check.type(wire, 2, "K8;Kh2;Ka8");
            Check.same("in a game", wire.played(1), 3);
        });
    }

    private static void could(String board, String said, String... due) {
        ChessWire wire = board.isEmpty() ? new ChessWire() : Check.on(board);
        Check.type(wire, 1, said);
        Check.same("'" + said + "' how many", wire.could(ChessWire.NONE), due.length);
        for (int i = 0; i < due.length; i++) {
            Check.same("'" + said + "' " + i, wire.could(i), Check.code(due[i]));
        }
        Check.same("'" + said + "' beyond", wire.could(due.length), ChessWire.NONE);
    }

    private static void could(Edges edges) {
        edges.add("16 could: BAD: also i below NONE", () -> {
            Check.same("-2", new ChessWire().could(-2), ChessWire.BAD);
            Check.same("the least", new ChessWire().could(Integer.MIN_VALUE), ChessWire.BAD);
        });
        edges.add("16 could: how many; the i-th; NONE beyond", () -> {
            could(START, "e5", "e2e3", "e2e4");
            could(START, "5e");
            ChessWire wire = Check.on(START);
            Check.type(wire, 1, "e5");
            Check.same("far beyond", wire.could(Integer.MAX_VALUE), ChessWire.NONE);
        });
        // The SHORTEST of a new object's MOVES are 1, a and b2.
        edges.add("COULD: as many signs, not more", () -> {
            could("", "b3", "a1b2");
            could("", "b2x");
            could("", "b3x");
            could(START, "2a4", "a2a3");
            could(START, "2a4x");
            could("", "b4b4b4b4b4");
        });
        edges.add("COULD: as many signs, not fewer", () -> {
            could("", "");
            could("", "b", "a1b1", "a1a2");
            could("", "c", "a1b1", "a1a2");
        });
        edges.add("COULD: unlike it in just one: not the same", () -> {
            could("", "1", "a1a2");
            could("", "b2");
            could(START, "Nf", "b1a3", "b1c3", "g1h3");
        });
        edges.add("COULD: unlike it in just one: not in two", () -> {
            could("", "c3");
            could(START, "KK");
        });
        edges.add("COULD: whatever THE SAYING is, by its bytes", () -> {
            could("", "\0", "a1b1", "a1a2");
            could(START, "N\u00ff", "b1a3", "b1c3", "g1f3", "g1h3");
            could("", "B2", "a1b2");
            could("", "44");
            could("", "42", "a1b2");
        });
    }

    private static void weights(Edges edges) {
        edges.add("WEIGHTS are 1 at first", () -> {
            ChessWire wire = new ChessWire();
            for (int man = 0; man < 6; man++) {
                Check.same("man " + man, wire.weight(man, 1), 1);
            }
        });
        edges.add("17 weight: 0 to 9, else BAD; what it was", () -> {
            ChessWire wire = new ChessWire();
            Check.same("0", wire.weight(5, 0), 1);
            Check.same("9", wire.weight(5, 9), 0);
            for (int v : new int[] {-1, 10, Integer.MIN_VALUE, Integer.MAX_VALUE}) {
                Check.same("weight " + v, wire.weight(5, v), ChessWire.BAD);
            }
            Check.same("still 9", wire.weight(5, 1), 9);
        });
        edges.add("17 weight: a MAN is 0 to 5, else BAD", () -> {
            for (int man : new int[] {-1, 6, Integer.MIN_VALUE, Integer.MAX_VALUE}) {
                Check.same("man " + man, new ChessWire().weight(man, 1), ChessWire.BAD);
            }
        });
        edges.add("WEIGHTS of MEN: P 0, N 1, B 2, R 3, Q 4, K 5", () -> {
            for (int man = 0; man < 5; man++) {
                ChessWire wire = Check.on("2k5/8/8/8/8/" + "PNBRQ".charAt(man) + "7/8/7K w");
                wire.weight(man, 0);
                Check.same("the king's three are left", wire.count(7), 3);
                wire.weight(5, 0);
                Check.same("none is left", wire.count(7), 0);
                wire.weight(man, 9);
                Check.same("the man's moves", wire.count(7), 9 * (wire.moves(ChessWire.NONE) - 3));
            }
        });
    }

    private static void tables(Edges edges) {
        edges.add("18 table: 2 to 26 letters, else BAD", () -> {
            ChessWire wire = new ChessWire();
            Check.same("2", wire.table(2), 5);
            Check.same("26", wire.table(26), 3);
            for (int k : new int[] {-1, 0, 1, 27, Integer.MIN_VALUE, Integer.MAX_VALUE}) {
                Check.same("k " + k, wire.table(k), ChessWire.BAD);
            }
        });
        edges.add("TABLE of one MOVE alone: no letters", () -> {
            ChessWire wire = Check.on(ONE_MOVE);
            Check.same("one move", wire.moves(ChessWire.NONE), 1);
            Check.same("2", wire.table(2), 0);
            Check.same("26", wire.table(26), 0);
        });
        edges.add("TABLE of no MOVES", () -> {
            ChessWire wire = Check.on(STALEMATE);
            Check.same("2", wire.table(2), 0);
            Check.same("26", wire.table(26), 0);
        });
        edges.add("TABLE of two MOVES: a letter each", () -> {
            ChessWire wire = Check.on("7k/8/8/8/8/8/3n4/K7 w");
            Check.same("two moves", wire.moves(ChessWire.NONE), 2);
            Check.same("2", wire.table(2), 2);
            Check.same("26", wire.table(26), 2);
            wire.weight(5, 9);
            Check.same("by their weights", wire.table(2), 18);
        });
    }

    private static void leastTables(Edges edges) {
        edges.add("TABLE with WEIGHTS of 0", () -> {
            ChessWire wire = Check.on(START);
            wire.weight(0, 0);
            Check.same("four knights' moves: a corner of them and the rest", wire.table(2), 4 * 2 + 1);
            wire.weight(1, 0);
            Check.same("nothing weighs", wire.table(2), 0);
        });
        edges.add("TABLE whose letters do not come out even", () -> {
            ChessWire wire = new ChessWire();
            Check.same("3 moves, 3 letters", wire.table(3), 3);
            wire = Check.on("k7/8/8/8/8/8/8/1K6 w");
            Check.same("5 moves, 2 letters", wire.table(2), 12);
            Check.same("5 moves, 3 letters: three in one corner", wire.table(3), 8);
            Check.same("5 moves, 4 letters: two in one corner", wire.table(4), 7);
            Check.same("5 moves, 5 letters", wire.table(5), 5);
            Check.same("5 moves, 6 letters", wire.table(6), 5);
        });
    }
}
