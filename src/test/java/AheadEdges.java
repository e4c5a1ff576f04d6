/** Edges of promises 19 to 21: answers sent ahead. */
final class AheadEdges {
    private static final long LONG_BAD = Long.MIN_VALUE + 2, LONG_NOT = Long.MIN_VALUE + 3;
    // Of a new object: behind it the replies h8g7 (g7), h8h7 (h) and h8g8 (8), to each the ANSWER b1b2 (b).
    private static final int B1 = Check.code("a1b1");
    // Sixteen replies behind h2h3, the fourth of them mate.
    private static final String MATE = "k5r1/8/8/8/8/8/PP5P/K7 w";
    private static final int H3 = Check.code("h2h3");
    // Behind Kh1 the third reply, Qf2, leaves no MOVES, and does not attack.
    private static final String STALEMATE = "k7/8/8/8/8/6q1/6K1/8 w";
    private static final int[] NO_MOVES = {-1, 4096, 4097, Integer.MIN_VALUE, Integer.MAX_VALUE};
    private static final int[] NO_FEES = {-1, 100, Integer.MIN_VALUE, Integer.MAX_VALUE};

    private AheadEdges() {
    }

    static void addTo(Edges edges) {
        answers(edges);
        longAnswers(edges);
        refusedAnswers(edges);
        gains(edges);
        gainsOfNothing(edges);
        refusedGains(edges);
        refusedGainsInOrder(edges);
        best(edges);
        bestInOrder(edges);
        refusedBest(edges);
    }

    private static void answers(Edges edges) {
        edges.add("19 answer: NONE: there is none", () -> {
            Check.same("mate", Check.on(MATE).answer(H3, 3), ChessWire.NONE);
            Check.same("no moves", Check.on(STALEMATE).answer(Check.code("g2h1"), 2), ChessWire.NONE);
        });
        edges.add("ANSWER: the fewest signs, of like ones the least", () -> {
            Check.same("b alone has one sign", new ChessWire().answer(B1, 0), Check.code("b1b2"));
            int b2 = Check.code("a1b2");
            Check.same("all have two", new ChessWire().answer(b2, 0), Check.code("b2a1"));
            int c8 = Check.code("c7c8");
            Check.same("mate: no replies", Check.on("k7/2Q5/1K6/8/8/8/8/8 w").answer(c8, 0), ChessWire.BAD);
        });
        edges.add("19 answer: the i-th lawful reply, 0 on; BAD: also beyond", () -> {
            ChessWire wire = Check.on(MATE);
            Check.same("the first", wire.answer(H3, 0), B1);
            Check.same("the last", wire.answer(H3, 15), B1);
            Check.same("beyond", wire.answer(H3, 16), ChessWire.BAD);
            Check.same("beyond", wire.answer(H3, Integer.MAX_VALUE), ChessWire.BAD);
        });
    }

    private static void longAnswers(Edges edges) {
        edges.add("ANSWER where all MOVES have four signs", () -> {
            // Nd5 attacks the king, who can't go; four queens may take, from two columns and two rows.
            ChessWire wire = Check.on("7k/4n3/2Q1Q3/8/1PQPQ3/1PKP4/1PPP3P/8 w");
            Check.same("c4d5", wire.answer(H3, 0), Check.code("c4d5"));
            gain(wire, H3, 0, 50, 54 - 5 * 7, 7);
            wire.play(H3);
            wire.play(Check.code("e7d5"));
            Check.same("four by four", wire.all(), 16);
        });
    }

    private static void refusedAnswers(Edges edges) {
        edges.add("19 answer: a MOVE is 0 to 4095, else BAD", () -> {
            for (int move : NO_MOVES) {
                Check.same("move " + move, new ChessWire().answer(move, 0), ChessWire.BAD);
            }
        });
        edges.add("19 answer: i below 0 is BAD", () -> {
            for (int i : new int[] {-1, -2, Integer.MIN_VALUE}) {
                Check.same("i " + i, new ChessWire().answer(B1, i), ChessWire.BAD);
            }
        });
        edges.add("19 answer: NOT: the MOVE is not lawful", () -> {
            Check.same("0", new ChessWire().answer(0, 0), ChessWire.NOT);
            Check.same("4095", new ChessWire().answer(4095, 0), ChessWire.NOT);
        });
        edges.add("19 answer: NOT comes ahead of beyond", () -> {
            Check.same("beyond, not lawful", new ChessWire().answer(0, 99), ChessWire.NOT);
        });
    }

    private static void gain(ChessWire wire, int move, int i, int fee, long above, long below) {
        String call = "gain(" + move + ", " + i + ", " + fee + ")";
        Check.same(call + " above", wire.gain(move, i, fee, 0), above);
        Check.same(call + " below", wire.gain(move, i, fee, 1), below);
    }

    private static void gains(Edges edges) {
        edges.add("GAIN is told in lowest terms", () -> {
            gain(new ChessWire(), B1, 0, 11, 1, 1);
            gain(new ChessWire(), B1, 0, 10, 2, 3);
            gain(new ChessWire(), B1, 1, 0, -5, 3);
            gain(new ChessWire(), B1, 1, 2, -1, 1);
            ChessWire wire = new ChessWire();
            wire.weight(5, 6);
            gain(wire, B1, 0, 10, 2, 3);
        });
        edges.add("20 gain: FEE is 0 to 99", () -> {
            gain(new ChessWire(), B1, 1, 0, 1 - 6, 3);
            gain(new ChessWire(), B1, 1, 99, 100 - 6, 3);
        });
        edges.add("GAIN: the WEIGHT of a reply is of its MAN as it stands ahead of it", () -> {
            ChessWire wire = Check.on("7k/8/8/8/8/K7/7p/8 w");
            wire.weight(4, 9);
            gain(wire, Check.code("a3a2"), 0, 50, 43, 4);
            wire.weight(0, 2);
            gain(wire, Check.code("a3a2"), 0, 50, 102 - 10, 5);
        });
    }

    private static void gainsOfNothing(Edges edges) {
        edges.add("GAIN of nothing is 0 by 1", () -> {
            gain(new ChessWire(), B1, 0, 8, 0, 1);
            gain(new ChessWire(), B1, 1, 5, 0, 1);
        });
        edges.add("GAIN: 0 by 1, where WEIGHTS are 0, less the cost", () -> {
            ChessWire wire = new ChessWire();
            wire.weight(5, 0);
            gain(wire, B1, 0, 99, -3, 1);
            gain(wire, B1, 1, 0, -2, 1);
        });
        edges.add("GAIN of a reply whose WEIGHT alone is 0", () -> {
            ChessWire wire = Check.on("k7/p7/8/8/8/8/8/K6R w");
            wire.weight(0, 0);
            gain(wire, Check.code("h1g1"), 0, 60, -2, 1);
            gain(wire, Check.code("h1g1"), 2, 60, 61 - 4, 2);
        });
    }

    private static void refusedGains(Edges edges) {
        edges.add("a refusal -x as a long is the least long and x more", () -> {
            Check.same("BAD", new ChessWire().gain(-1, 0, 0, 0), -9223372036854775806L);
            Check.same("NOT", new ChessWire().gain(0, 0, 0, 0), -9223372036854775805L);
        });
        edges.add("20 gain: a MOVE is 0 to 4095, else BAD", () -> {
            for (int move : NO_MOVES) {
                Check.same("move " + move, new ChessWire().gain(move, 0, 0, 0), LONG_BAD);
            }
        });
        edges.add("20 gain: a FEE below 0 or above 99 is BAD", () -> {
            for (int fee : NO_FEES) {
                Check.same("fee " + fee, new ChessWire().gain(B1, 0, fee, 0), LONG_BAD);
            }
        });
        edges.add("20 gain: above and below are 0 and 1, else BAD", () -> {
            for (int what : new int[] {-1, 2, Integer.MIN_VALUE, Integer.MAX_VALUE}) {
                Check.same("what " + what, new ChessWire().gain(B1, 0, 0, what), LONG_BAD);
            }
        });
        edges.add("20 gain: i below 0 is BAD", () -> {
            Check.same("-1", new ChessWire().gain(B1, -1, 0, 0), LONG_BAD);
            Check.same("the least", new ChessWire().gain(B1, Integer.MIN_VALUE, 0, 1), LONG_BAD);
        });
        edges.add("20 gain: BAD: also beyond", () -> {
            Check.same("behind the last", new ChessWire().gain(B1, 3, 0, 0), LONG_BAD);
            Check.same("far beyond", new ChessWire().gain(B1, Integer.MAX_VALUE, 0, 1), LONG_BAD);
            Check.that("the last", new ChessWire().gain(B1, 2, 0, 0) == -5);
        });
    }

    private static void refusedGainsInOrder(Edges edges) {
        edges.add("20 gain: NOT: the MOVE is not lawful", () -> {
            Check.same("0", new ChessWire().gain(0, 0, 0, 0), LONG_NOT);
            Check.same("4095", new ChessWire().gain(4095, 0, 99, 1), LONG_NOT);
        });
        edges.add("20 gain: NOT comes ahead of beyond", () -> {
            Check.same("beyond, not lawful", new ChessWire().gain(0, 99, 0, 0), LONG_NOT);
        });
        edges.add("20 gain: NOT: there is no ANSWER", () -> {
            Check.same("mate", Check.on(MATE).gain(H3, 3, 50, 0), LONG_NOT);
            Check.same("mate", Check.on(MATE).gain(H3, 3, 50, 1), LONG_NOT);
            Check.same("no moves", Check.on(STALEMATE).gain(Check.code("g2h1"), 2, 50, 0), LONG_NOT);
        });
        edges.add("20 gain: BAD comes ahead of NOT", () -> {
            Check.same("not lawful, fee", new ChessWire().gain(0, 0, 100, 0), LONG_BAD);
            Check.same("not lawful, what", new ChessWire().gain(0, 0, 0, 2), LONG_BAD);
            Check.same("no answer, fee", Check.on(MATE).gain(H3, 3, -1, 0), LONG_BAD);
        });
    }

    private static void best(ChessWire wire, int move, int k, int fee, String... due) {
        String call = "ahead(" + move + ", " + k + ", " + fee + ") ";
        Check.same(call + "how many", wire.ahead(move, k, fee, ChessWire.NONE), due.length);
        for (int i = 0; i < due.length; i++) {
            Check.same(call + i, wire.ahead(move, k, fee, i), Check.code(due[i]));
        }
        Check.same(call + "beyond", wire.ahead(move, k, fee, due.length), ChessWire.NONE);
    }

    private static void best(Edges edges) {
        edges.add("21 ahead: how many; the i-th, 0 on; NONE beyond", () -> {
            best(new ChessWire(), B1, 9, 50, "h8h7", "h8g8", "h8g7");
            Check.same("far beyond", new ChessWire().ahead(B1, 9, 50, Integer.MAX_VALUE), ChessWire.NONE);
            Check.same("mate", Check.on("k7/2Q5/1K6/8/8/8/8/8 w").ahead(Check.code("c7c8"), 9, 99, -1), 0);
        });
        edges.add("BEST: a GAIN above 0, not of 0", () -> {
            best(new ChessWire(), B1, 9, 5);
            best(new ChessWire(), B1, 9, 6, "h8h7", "h8g8");
            best(new ChessWire(), B1, 9, 8, "h8h7", "h8g8");
            best(new ChessWire(), B1, 9, 9, "h8h7", "h8g8", "h8g7");
            // Behind Kb2 an ANSWER has two signs.
            best(new ChessWire(), Check.code("a1b2"), 9, 7);
            best(new ChessWire(), Check.code("a1b2"), 9, 8, "h8h7", "h8g8");
        });
        edges.add("BEST where WEIGHTS are 0: none", () -> {
            ChessWire wire = new ChessWire();
            wire.weight(5, 0);
            best(wire, B1, 9, 99);
        });
        edges.add("21 ahead: k is 0 to 9: at most so many", () -> {
            best(new ChessWire(), B1, 0, 50);
            best(new ChessWire(), B1, 1, 50, "h8h7");
            best(new ChessWire(), B1, 2, 50, "h8h7", "h8g8");
            best(new ChessWire(), B1, 3, 50, "h8h7", "h8g8", "h8g7");
        });
    }

    private static void bestInOrder(Edges edges) {
        edges.add("BEST of more than nine that gain", () -> {
            ChessWire wire = Check.on(MATE);
            wire.weight(3, 9);
            best(wire, H3, 9, 50, "g8g2", "g8g3", "g8g4", "g8g5", "g8g6", "g8c8", "g8d8", "g8e8", "g8f8");
            best(wire, H3, 8, 50, "g8g2", "g8g3", "g8g4", "g8g5", "g8g6", "g8c8", "g8d8", "g8e8");
        });
        edges.add("replies with no ANSWER are left out", () -> {
            ChessWire wire = Check.on(STALEMATE);
            best(wire, Check.code("g2h1"), 4, 99, "g3e1", "g3g1", "g3g2", "g3h2");
        });
        edges.add("BEST: of like ones the least reply first", () -> {
            best(new ChessWire(), B1, 1, 8, "h8h7");
            best(Check.on("k7/p7/8/8/8/8/8/K6R w"), Check.code("h1g1"), 9, 50, "a7a5", "a7a6", "a8b7", "a8b8");
        });
        edges.add("BEST: the greatest GAIN first", () -> {
            ChessWire wire = Check.on("k7/p7/8/8/8/8/8/K6R w");
            wire.weight(5, 2);
            best(wire, Check.code("h1g1"), 9, 50, "a8b7", "a8b8", "a7a5", "a7a6");
            best(wire, Check.code("h1g1"), 3, 50, "a8b7", "a8b8", "a7a5");
        });
    }

    private static void refusedBest(Edges edges) {
        edges.add("21 ahead: a MOVE is 0 to 4095, else BAD", () -> {
            for (int move : NO_MOVES) {
                Check.same("move " + move, new ChessWire().ahead(move, 9, 50, -1), ChessWire.BAD);
            }
        });
        edges.add("21 ahead: k below 0 or above 9 is BAD", () -> {
            for (int k : new int[] {-1, 10, Integer.MIN_VALUE, Integer.MAX_VALUE}) {
                Check.same("k " + k, new ChessWire().ahead(B1, k, 50, -1), ChessWire.BAD);
            }
        });
        edges.add("21 ahead: a FEE is 0 to 99, else BAD", () -> {
            best(new ChessWire(), B1, 9, 0);
            best(new ChessWire(), B1, 9, 99, "h8h7", "h8g8", "h8g7");
            for (int fee : NO_FEES) {
                Check.same("fee " + fee, new ChessWire().ahead(B1, 9, fee, -1), ChessWire.BAD);
            }
        });
        edges.add("21 ahead: BAD: also i below NONE", () -> {
            Check.same("-2", new ChessWire().ahead(B1, 9, 50, -2), ChessWire.BAD);
            Check.same("the least", new ChessWire().ahead(B1, 9, 50, Integer.MIN_VALUE), ChessWire.BAD);
        });
        edges.add("21 ahead: NOT: the MOVE is not lawful", () -> {
            Check.same("0", new ChessWire().ahead(0, 9, 50, -1), ChessWire.NOT);
            Check.same("4095", new ChessWire().ahead(4095, 0, 0, 99), ChessWire.NOT);
        });
        edges.add("21 ahead: BAD comes ahead of NOT", () -> {
            Check.same("k", new ChessWire().ahead(0, 10, 50, -1), ChessWire.BAD);
            Check.same("fee", new ChessWire().ahead(0, 9, 100, -1), ChessWire.BAD);
            Check.same("i", new ChessWire().ahead(0, 9, 50, -2), ChessWire.BAD);
        });
    }
}
