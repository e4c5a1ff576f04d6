/** Edges of promises 22 to 26: games, purses, readings. */
final class GameEdges {
    private static final String START = BoardEdges.START;
    private static final String TWELVE = "a;b;c;d;e;f;g;h;1;2;3;4";
    // To the fifth row go 40 MOVES of the one, 41 of the other.
    private static final String FORTY = "k7/8/QQQQQQQQ/8/RQQ1QQQQ/8/8/K7 w";
    private static final String MORE = "k7/8/QQQQQQQQ/8/QQQ1QQQQ/8/8/K7 w";

    private GameEdges() {
    }

    static void addTo(Edges edges) {
        faults(edges);
        faultyGames(edges);
        played(edges);
        playedParts(edges);
        moves(edges);
        purses(edges);
        readings(edges);
        readingsFull(edges);
        reading(edges);
        refusedReading(edges);
    }

    private static void fault(String game, int due) {
        ChessWire wire = new ChessWire();
        Check.type(wire, 2, game);
        Check.same("'" + game + "'", wire.fault(2), due);
    }

    private static void faults(Edges edges) {
        edges.add("4 fault: of an empty GAME none", () -> fault("", ChessWire.NONE));
        edges.add("4 fault: of a shorter GAME its end", () -> {
            fault("N", 1);
            fault("e4;", 3);
            fault("e4;N", 4);
            fault("e4;ee", 5);
        });
        edges.add("4 fault: of a GAME the first byte with which it cannot go on", () -> {
            fault(";", 0);
            fault("e4;;e5", 3);
            fault("N;e5", 1);
            fault("ee;e5", 2);
            fault("e4 e5", 2);
            fault("e4;x", 3);
            fault("a1h8a;e", 4);
            fault("e4,e5", 2);
        });
        edges.add("4 fault: twelve SAYINGS at most", () -> fault(TWELVE, ChessWire.NONE));
        edges.add("4 fault: of a thirteenth SAYING where it would begin", () -> {
            fault(TWELVE + ";", 24);
            fault(TWELVE + ";5", 24);
            fault(TWELVE + ";Qa1h8;e", 24);
            fault(TWELVE + ";;", 24);
            fault("e4;" + TWELVE, 25);
        });
        edges.add("4 fault: of a fault ahead of a thirteenth SAYING", () -> fault("x;" + TWELVE, 0));
    }

    private static void isUnplayed(ChessWire wire) {
        Check.same("parts", wire.count(6), 0);
        Check.same("part", wire.played(0), ChessWire.NONE);
        Check.same("moves", wire.played(1), 0);
        Check.same("signs", wire.played(2), 0);
        Check.same("the first move", wire.move(0), ChessWire.NONE);
        Check.same("purse", wire.purse(0), ChessWire.NONE);
        Check.same("readings", wire.readings(), 1);
        for (int part = 0; part < 3; part++) {
            Check.same("reading", wire.reading(part, 0), ChessWire.NONE);
            Check.same("unlike", wire.reading(part, 1), 0);
        }
    }

    private static void faultyGames(Edges edges) {
        edges.add("an empty GAME has no parts", () -> isUnplayed(Check.on(START)));
        edges.add("with a FAULT a GAME has no parts, as an empty one", () -> {
            ChessWire wire = Check.on(START);
            for (String game : new String[] {"e4;e5;", "e4;e5;x", "e4;N", ";", "x", "e4;e5;d4;d5;", TWELVE + ";5"}) {
                Check.retype(wire, 2, game);
                isUnplayed(wire);
            }
        });
        edges.add("a GAME of all 60 bytes", () -> {
            ChessWire wire = Check.on(START);
            Check.type(wire, 2, "g1f3;g8f6;f3g1;f6g8;g1f3;g8f6;f3g1;f6g8;g1f3;g8f6;f3g1;Nf6g8");
            Check.same("bytes", wire.count(4), 60);
            Check.same("parts", wire.count(6), 12);
            Check.same("all are played", wire.played(1), 12);
            Check.same("signs", wire.played(2), 49);
        });
    }

    private static void played(ChessWire wire, String game, int part, int moves, int signs) {
        Check.retype(wire, 2, game);
        Check.same(game + " part", wire.played(0), part);
        Check.same(game + " moves", wire.played(1), moves);
        Check.same(game + " signs", wire.played(2), signs);
        Check.same(game + " beyond", wire.move(moves), ChessWire.NONE);
    }

    private static void played(Edges edges) {
        edges.add("22 played: what is 0 to 2, else BAD", () -> {
            for (int what : new int[] {-1, 3, Integer.MIN_VALUE, Integer.MAX_VALUE}) {
                Check.same("what " + what, new ChessWire().played(what), ChessWire.BAD);
            }
        });
        edges.add("PLAYED: the first part that MEANS no MOVE", () -> {
            ChessWire wire = Check.on(START);
            played(wire, "e5", 0, 0, 0);
            played(wire, "e4;e4;e5", 1, 1, 2);
            played(wire, "e4;e5;Qe5", 2, 2, 4);
        });
        edges.add("PLAYED: the first part that MEANS several MOVES", () -> {
            ChessWire wire = Check.on(START);
            played(wire, "e", 0, 0, 0);
            played(wire, "N3;e5", 0, 0, 0);
            played(wire, "e4;e;Nf", 1, 1, 2);
        });
        edges.add("PLAYED: NONE, where all are", () -> {
            ChessWire wire = Check.on(START);
            played(wire, "e4", ChessWire.NONE, 1, 2);
            played(wire, "e4;e5;Nf;Nbc6", ChessWire.NONE, 4, 10);
        });
    }

    private static void playedParts(Edges edges) {
        edges.add("PLAYED: signs without the ; between", () -> {
            played(Check.on(START), "Pe4;Pe7e5;Nf", ChessWire.NONE, 3, 10);
        });
        edges.add("PLAYED from the board as it is, which stays", () -> {
            ChessWire wire = Check.on(START);
            wire.play(Check.code("e2e4"));
            long before = wire.side() * 64L + wire.moves(ChessWire.NONE);
            played(wire, "e5;Nf", ChessWire.NONE, 2, 4);
            Check.same("side and moves", wire.side() * 64L + wire.moves(ChessWire.NONE), before);
            Check.same("since the text", wire.count(5), 1);
            Check.same("e5", wire.square(36), 0);
            // Black is attacked: the rook can go to d8 alone.
            played(Check.on("k3R3/pp1r4/8/8/8/8/8/7K b"), "Rd", ChessWire.NONE, 1, 2);
        });
        edges.add("PLAYED on a board without MOVES", () -> {
            played(Check.on("7k/5Q2/6K1/8/8/8/8/8 b"), "Kh7", 0, 0, 0);
        });
    }

    private static void moves(Edges edges) {
        edges.add("23 move: the i-th; NONE beyond", () -> {
            ChessWire wire = Check.on(START);
            Check.type(wire, 2, "e4;e5;a");
            Check.same("the first", wire.move(0), Check.code("e2e4"));
            Check.same("the second", wire.move(1), Check.code("e7e5"));
            Check.same("not played", wire.move(2), ChessWire.NONE);
            Check.same("beyond", wire.move(12), ChessWire.NONE);
            Check.same("far beyond", wire.move(Integer.MAX_VALUE), ChessWire.NONE);
        });
        edges.add("23 move: BAD: also i below 0", () -> {
            for (int i : new int[] {-1, -2, Integer.MIN_VALUE}) {
                Check.same("i " + i, new ChessWire().move(i), ChessWire.BAD);
            }
        });
    }

    private static void purses(Edges edges) {
        edges.add("24 purse: 0 to 99, else BAD", () -> {
            ChessWire wire = Check.on(START);
            Check.type(wire, 2, "e4;e5");
            Check.same("0", wire.purse(0), 0);
            Check.same("99", wire.purse(99), ChessWire.NONE);
            for (int v : new int[] {-1, 100, Integer.MIN_VALUE, Integer.MAX_VALUE}) {
                Check.same("purse " + v, wire.purse(v), ChessWire.BAD);
            }
        });
        edges.add("PURSE: more than v signs, not just v", () -> {
            ChessWire wire = Check.on(START);
            Check.type(wire, 2, "e4;Pe5;Nf");
            Check.same("1", wire.purse(1), 0);
            Check.same("2", wire.purse(2), 1);
            Check.same("4", wire.purse(4), 1);
            Check.same("5", wire.purse(5), 2);
            Check.same("6", wire.purse(6), 2);
        });
        edges.add("PURSE: NONE, where it lasts", () -> {
            ChessWire wire = Check.on(START);
            Check.type(wire, 2, "e4;Pe5;Nf");
            Check.same("7", wire.purse(7), ChessWire.NONE);
            Check.same("of an empty game", new ChessWire().purse(0), ChessWire.NONE);
        });
        edges.add("PURSE: a part PLAYED, no other", () -> {
            ChessWire wire = Check.on(START);
            Check.type(wire, 2, "e4;e;Nf");
            Check.same("the second is not", wire.purse(2), ChessWire.NONE);
            Check.same("the first is", wire.purse(1), 0);
            Check.retype(wire, 2, "e;e4");
            Check.same("none is", wire.purse(0), ChessWire.NONE);
        });
    }

    private static void readings(ChessWire wire, String game, int due) {
        Check.retype(wire, 2, game);
        Check.same(game, wire.readings(), due);
    }

    private static void readings(Edges edges) {
        edges.add("READINGS: 1 of an empty GAME", () -> Check.same("empty", Check.on(START).readings(), 1));
        edges.add("READINGS: 0, where a part FITS nothing", () -> {
            ChessWire wire = Check.on(START);
            readings(wire, "e5", 0);
            readings(wire, "e;e;Qh8", 0);
            Check.same("no first", wire.reading(0, 0), ChessWire.NONE);
            Check.same("none unlike", wire.reading(1, 1), 0);
        });
        edges.add("READINGS: one behind the other, up to the last", () -> {
            ChessWire wire = Check.on(START);
            readings(wire, "e;d5;Pd5", 1);
            Check.same("the first goes on to the last", wire.reading(0, 0), Check.code("e2e4"));
            Check.same("no other does", wire.reading(0, 1), 1);
        });
        edges.add("READINGS of a GAME of up to 3 parts, else FULL", () -> {
            ChessWire wire = Check.on(START);
            readings(wire, "e4;e5;d4", 1);
            readings(wire, "e4;e5;d4;d5", ChessWire.FULL);
            readings(wire, "e5;e5;e5;e5", ChessWire.FULL);
            readings(wire, TWELVE, ChessWire.FULL);
        });
    }

    private static void readingsFull(Edges edges) {
        edges.add("READINGS: 40 lawful MOVES are not more than 40", () -> {
            ChessWire wire = Check.on(FORTY);
            readings(wire, "5", 40);
            Check.same("unlike", wire.reading(0, 1), 40);
        });
        edges.add("READINGS: FULL, where a SAYING FITS more than 40 lawful MOVES", () -> {
            readings(Check.on(MORE), "5", ChessWire.FULL);
            readings(Check.on(MORE), "5;Qa1", ChessWire.FULL);
            ChessWire wire = Check.on(MORE);
            readings(wire, "5", ChessWire.FULL);
            readings(wire, "Ka2", 1);
        });
        edges.add("READINGS: FULL, where a later SAYING FITS more than 40", () -> {
            String behind = "/6PP/6NK w";
            readings(Check.on("k7/8/qqqqqqqq/8/qqq1qqqq/8" + behind), "Ne;5", ChessWire.FULL);
            readings(Check.on("k7/8/qqqqqqqq/8/rqq1qqqq/8" + behind), "Ne;5", 40);
            readings(Check.on("8/8/qqqqqqqq/8/qqq1qqqq/8/6P1/kK6 b"), "Kb;g;5", ChessWire.FULL);
            readings(Check.on("8/8/qqqqqqqq/8/rqq1qqqq/8/6P1/kK6 b"), "Kb;g;5", 40);
        });
    }

    private static void reading(Edges edges) {
        edges.add("26 reading: the MOVE of the first; NONE of a part beyond", () -> {
            ChessWire wire = Check.on(START);
            Check.type(wire, 2, "e;e");
            Check.same("the first by numbers", wire.reading(0, 0), Check.code("e2e3"));
            Check.same("part by part", wire.reading(1, 0), Check.code("e7e5"));
            Check.same("beyond", wire.reading(2, 0), ChessWire.NONE);
        });
        edges.add("26 reading: how many unlike MOVES; 0 of a part beyond", () -> {
            ChessWire wire = Check.on(START);
            Check.type(wire, 2, "e;Nc");
            Check.same("two", wire.reading(0, 1), 2);
            Check.same("one", wire.reading(1, 1), 1);
            Check.same("beyond", wire.reading(2, 1), 0);
            Check.retype(wire, 0, "k7/8/8/8/8/8/8/1K6 w");
            Check.retype(wire, 2, "Ka");
            Check.same("to a1 and a2", wire.reading(0, 1), 2);
            Check.retype(wire, 0, "k7/8/8/8/8/8/8/K7 w");
            Check.retype(wire, 2, "Kb");
            Check.same("from a1", wire.reading(0, 1), 2);
        });
        edges.add("26 reading: each part has its own unlike MOVES", () -> {
            ChessWire wire = Check.on("7k/8/8/qQ6/8/8/8/7K w");
            Check.type(wire, 2, "Qa6;Qa6");
            Check.same("the first", wire.reading(0, 1), 1);
            Check.same("the second", wire.reading(1, 1), 1);
            Check.retype(wire, 0, "7k/8/8/R7/8/8/7K/r7 w");
            Check.retype(wire, 2, "Ra3;Ra3");
            Check.same("the first", wire.reading(0, 1), 1);
            Check.same("the second", wire.reading(1, 1), 1);
        });
    }

    private static void refusedReading(Edges edges) {
        edges.add("26 reading: a part is 0 to 2, else BAD", () -> {
            for (int part : new int[] {-1, 3, Integer.MIN_VALUE, Integer.MAX_VALUE}) {
                Check.same("part " + part, new ChessWire().reading(part, 0), ChessWire.BAD);
            }
        });
        edges.add("26 reading: what is 0 or 1, else BAD", () -> {
            for (int what : new int[] {-1, 2, Integer.MIN_VALUE, Integer.MAX_VALUE}) {
                Check.same("what " + what, new ChessWire().reading(0, what), ChessWire.BAD);
            }
        });
        edges.add("26 reading: FULL", () -> {
            ChessWire wire = Check.on(START);
            Check.type(wire, 2, "e4;e5;d4;d5");
            Check.same("four parts", wire.reading(0, 0), ChessWire.FULL);
            Check.same("four parts", wire.reading(2, 1), ChessWire.FULL);
            ChessWire more = Check.on(MORE);
            Check.type(more, 2, "5");
            Check.same("more than 40", more.reading(0, 1), ChessWire.FULL);
            Check.same("a part beyond", more.reading(2, 0), ChessWire.FULL);
        });
        edges.add("26 reading: BAD comes ahead of FULL", () -> {
            ChessWire wire = Check.on(START);
            Check.type(wire, 2, "e4;e5;d4;d5");
            Check.same("part", wire.reading(3, 0), ChessWire.BAD);
            Check.same("what", wire.reading(0, 2), ChessWire.BAD);
        });
    }
}
