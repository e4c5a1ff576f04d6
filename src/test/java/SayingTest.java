import java.util.List;

/** Promises 13 to 18: the shortest saying, what a saying means, what it could be, weights and tables. */
public final class SayingTest {
    private static final String START = "rnbqkbnr/pppppppp/8/8/8/8/PPPPPPPP/RNBQKBNR w";

    private SayingTest() {
    }

    public static void main(String[] args) {
        shortest();
        formsOfShortest();
        all();
        means();
        could();
        weights();
        tables();
        leastTables();
        Check.end("SayingTest");
    }

    private static String shortest(ChessWire wire, String from, String to) {
        StringBuilder said = new StringBuilder();
        int move = Check.code(from, to);
        int signs = wire.shortest(move, -1);
        for (int i = 0; i < signs; i++) {
            said.append((char) wire.shortest(move, i));
        }
        Check.same("beyond", wire.shortest(move, Math.max(0, signs)), signs < 0 ? signs : ChessWire.NONE);
        return said.toString();
    }

    private static void isShortest(ChessWire wire, String from, String to, String due) {
        String said = shortest(wire, from, to);
        Check.that("shortest for " + from + to + " is " + said + ", due is " + due, said.equals(due));
    }

    private static void shortest() {
        ChessWire wire = Check.on(START);
        isShortest(wire, "g1", "f3", "Nf");
        isShortest(wire, "b1", "a3", "Na");
        isShortest(wire, "e2", "e4", "e4");
        isShortest(wire, "e2", "e3", "e3");
        isShortest(wire, "a2", "a3", "2a3");
        isShortest(wire, "a2", "a4", "a4");
        Check.same("how many", wire.shortest(Check.code("e2", "e4"), -1), 2);
        Check.same("beyond", wire.shortest(Check.code("e2", "e4"), 2), ChessWire.NONE);
        Check.same("no move", wire.shortest(4096, 0), ChessWire.BAD);
        Check.same("no move", wire.shortest(-1, 0), ChessWire.BAD);
        Check.same("below NONE", wire.shortest(Check.code("e2", "e4"), -2), ChessWire.BAD);
        Check.same("BAD ahead of NOT", wire.shortest(0, -2), ChessWire.BAD);
        Check.same("not lawful", wire.shortest(Check.code("e7", "e5"), -1), ChessWire.NOT);
    }

    private static void formsOfShortest() {
        // Two rooks on one row, two on one column, a knight and a bishop among them.
        ChessWire rooks = Check.on("7k/8/8/8/R6R/8/8/K7 w");
        isShortest(rooks, "a4", "a8", "a8");
        isShortest(rooks, "h4", "h8", "h8");
        isShortest(rooks, "a4", "d4", "ad4");
        isShortest(rooks, "h4", "d4", "hd4");

        ChessWire column = Check.on("R6k/8/8/8/8/8/8/R6K w");
        isShortest(column, "a8", "a4", "8a4");
        isShortest(column, "a1", "a4", "1a4");
        isShortest(column, "a8", "h8", "Rh");

        ChessWire queens = Check.on("k7/8/8/Q7/8/8/8/Q3Q2K w");
        isShortest(queens, "a1", "a3", "1a3");
        isShortest(queens, "a5", "c3", "5c3");
        isShortest(queens, "e1", "c3", "ec3");

        // Two go to d4 alone, but four queens around a square need both the column and the row that they are from.
        ChessWire many = Check.on("8/7k/2N1N3/8/8/2N1N3/7K/8 w");
        isShortest(many, "c6", "d4", "cd4");
        isShortest(many, "c6", "d8", "cd8");
        ChessWire full = Check.on("6k1/8/2Q1Q3/8/2Q1Q3/8/7K/8 w");
        isShortest(full, "c6", "d5", "c6d5");
        isShortest(full, "c4", "d5", "c4d5");
        isShortest(full, "e6", "d5", "e6d5");
        ChessWire mixed = Check.on("6k1/8/2Q1Q3/8/2B1Q3/8/7K/8 w");
        isShortest(mixed, "c6", "d5", "Qcd5");
        isShortest(mixed, "e4", "d5", "Q4d5");
        isShortest(mixed, "c4", "d5", "Bd5");
        isShortest(mixed, "e6", "d5", "e6d5");
    }

    private static void all() {
        Check.same("of a bare board", new ChessWire().all(), 4);
        Check.same("of the start", Check.on(START).all(), 44);
        Check.same("of none", Check.on("7k/5Q2/6K1/8/8/8/8/8 b").all(), 0);
    }

    private static void means(ChessWire wire, String said, int... due) {
        wire.wipe(1);
        Check.type(wire, 1, said);
        Check.same("'" + said + "' means how many", wire.means(-1), due.length);
        for (int i = 0; i < due.length; i++) {
            Check.same("'" + said + "' means " + i, wire.means(i), due[i]);
        }
        Check.same("beyond", wire.means(due.length), ChessWire.NONE);
    }

    private static void means() {
        ChessWire wire = Check.on(START);
        int a3 = Check.code("b1", "a3");
        int c3 = Check.code("b1", "c3");
        int f3 = Check.code("g1", "f3");
        int h3 = Check.code("g1", "h3");
        means(wire, "N", new int[0]);
        means(wire, "N3", a3, c3, f3, h3);
        means(wire, "N4");
        means(wire, "Nf", f3);
        means(wire, "f3", f3, Check.code("f2", "f3"));
        means(wire, "gf3", f3);
        means(wire, "1f3", f3);
        means(wire, "2f3", Check.code("f2", "f3"));
        means(wire, "Ngf3", f3);
        means(wire, "N1f3", f3);
        means(wire, "N2f3");
        means(wire, "Pf3", Check.code("f2", "f3"));
        means(wire, "Pg1f3");
        means(wire, "g1f3", f3);
        means(wire, "f", f3, Check.code("f2", "f3"), Check.code("f2", "f4"));
        means(wire, "5");
        means(wire, "");
        means(wire, "f3x");
        means(wire, "n3");
        Check.same("below NONE", wire.means(-2), ChessWire.BAD);
        ChessWire black = Check.on("k7/8/8/8/8/8/p7/7K b");
        means(black, "P1", Check.code("a2", "a1"));
        means(black, "Q1");
        means(black, "Ka7", Check.code("a8", "a7"));
    }

    private static void could() {
        ChessWire wire = Check.on(START);
        Check.same("nothing said", wire.could(-1), 0);
        Check.type(wire, 1, "e5");
        Check.same("e5: e3 or e4", wire.could(-1), 2);
        Check.same("e3", wire.could(0), Check.code("e2", "e3"));
        Check.same("e4", wire.could(1), Check.code("e2", "e4"));
        Check.same("beyond", wire.could(2), ChessWire.NONE);
        Check.same("below NONE", wire.could(-2), ChessWire.BAD);
        wire.wipe(1);
        Check.type(wire, 1, "?4");
        Check.same("whatever it is: eight", wire.could(-1), 8);
        Check.same("the first by number", wire.could(0), Check.code("a2", "a4"));
        wire.wipe(1);
        Check.type(wire, 1, "e4");
        Check.same("not itself, but the seven others and e3", wire.could(-1), 8);
        wire.wipe(1);
        Check.type(wire, 1, "e4abc");
        Check.same("as many signs", wire.could(-1), 0);
        wire.wipe(1);
        Check.type(wire, 1, "NN");
        Check.same("Na, Nc, Nf, Nh", wire.could(-1), 4);
        Check.same("Nc", wire.could(1), Check.code("b1", "c3"));
        Check.same("it means nothing", wire.means(-1), 0);
    }

    private static void weights() {
        ChessWire wire = new ChessWire();
        for (int man = 0; man < 6; man++) {
            Check.same("at first", wire.weight(man, man), 1);
            Check.same("then", wire.weight(man, 9 - man), man);
        }
        Check.same("the king weighs 4", wire.count(7), 12);
        Check.same("no man", wire.weight(6, 0), ChessWire.BAD);
        Check.same("no man", wire.weight(-1, 0), ChessWire.BAD);
        Check.same("too much", wire.weight(5, 10), ChessWire.BAD);
        Check.same("too little", wire.weight(5, -1), ChessWire.BAD);
        Check.same("unchanged", wire.count(7), 12);
        ChessWire black = Check.on("rnbqkbnr/pppppppp/8/8/8/8/PPPPPPPP/RNBQKBNR b");
        black.weight(0, 2);
        black.weight(1, 3);
        Check.same("of either colour", black.count(7), 16 * 2 + 4 * 3);
    }

    private static void tables() {
        ChessWire wire = new ChessWire();
        Check.same("three moves, two letters", wire.table(2), 5);
        Check.same("three moves, three letters", wire.table(3), 3);
        Check.same("three moves, all letters", wire.table(26), 3);
        Check.same("one letter", wire.table(1), ChessWire.BAD);
        Check.same("too many", wire.table(27), ChessWire.BAD);
        wire.weight(5, 0);
        Check.same("of no weight", wire.table(2), 0);

        ChessWire start = Check.on(START);
        Check.same("20 by two letters", start.table(2), 12 * 4 + 8 * 5);
        Check.same("20 by three letters", start.table(3), 3 * 2 + 17 * 3);
        Check.same("20 by 19 letters", start.table(19), 18 + 2 * 2);
        Check.same("20 by 20 letters", start.table(20), 20);
        start.weight(1, 0);
        start.weight(0, 3);
        Check.same("four of no weight in one corner", start.table(2), 15 * 3 * 4 + 3 * 5);

        ChessWire one = Check.on("7k/8/8/8/8/8/5q2/7K w");
        Check.same("no moves", one.table(2), 0);
        ChessWire lonely = Check.on("K1k5/8/8/8/8/8/8/8 w");
        Check.same("one move alone", lonely.moves(-1), 1);
        Check.same("no letters", lonely.table(2), 0);
        Check.same("no letters", lonely.table(26), 0);
    }

    /** The heap of PlainWire against all lengths that a table may have (by Kraft). */
    private static void leastTables() {
        int[][] sets = {{1, 1, 1, 1, 1}, {9, 1, 1, 1, 1, 1}, {0, 0, 5, 5}, {0, 3, 0, 3, 9, 9}, {9, 8, 7, 1, 1, 0},
            {2, 2}, {4}, {5, 5, 5}};
        for (int[] set : sets) {
            Integer[] heavyFirst = new Integer[set.length];
            for (int i = 0; i < set.length; i++) {
                heavyFirst[i] = set[i];
            }
            java.util.Arrays.sort(heavyFirst, java.util.Collections.reverseOrder());
            for (int k = 2; k <= 5; k++) {
                int due = set.length == 1 ? 0 : leastByLengths(heavyFirst, 0, 1, k, 1.0);
                Check.same("least table", PlainWire.leastTable(List.of(heavyFirst), k), due);
            }
        }
    }

    private static int leastByLengths(Integer[] heavyFirst, int i, int from, int k, double room) {
        if (i == heavyFirst.length) {
            return 0;
        }
        int least = 1_000_000;
        for (int length = from; length <= 6; length++) {
            double used = Math.pow(k, -length);
            if (used <= room + 1e-9) {
                least = Math.min(least, heavyFirst[i] * length
                    + leastByLengths(heavyFirst, i + 1, length, k, room - used));
            }
        }
        return least;
    }
}
