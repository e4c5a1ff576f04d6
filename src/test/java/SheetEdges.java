/** Edges of promises 27 to 34: sheets and their findings, counts, the digest; and what refusals leave as it was. */
final class SheetEdges {
    private static final String START = BoardEdges.START;
    private static final int NULL = -11, INDEX = -12, CAST = -13, STORE = -14, SIZE = -15;
    private static final int LEAST = Integer.MIN_VALUE;
    private static final int[] NO_SHEETS = {-1, 4, Integer.MIN_VALUE, Integer.MAX_VALUE};
    private static final int[] NO_FORMS = {-1, 3, Integer.MIN_VALUE, Integer.MAX_VALUE};

    private SheetEdges() {
    }

    static void addTo(Edges edges) {
        sheets(edges);
        refusedSheets(edges);
        losing(edges);
        laying(edges);
        refusedLaying(edges);
        getting(edges);
        refusedGetting(edges);
        copying(edges);
        refusedCopying(edges);
        copyingBeyond(edges);
        writing(edges);
        writingBits(edges);
        counts(edges);
        findings(edges);
        refusals(edges);
        digests(edges);
    }

    /** Sheet 0 holds 1 to 6, sheet 1 four times 0, as ints. */
    private static ChessWire numbered() {
        ChessWire wire = new ChessWire();
        wire.sheet(0, 2, 6);
        wire.sheet(1, 2, 4);
        for (int i = 0; i < 6; i++) {
            Check.same("lay", wire.lay(0, 2, i, i + 1), 1);
        }
        return wire;
    }

    private static void isRow(ChessWire wire, int s, int... due) {
        for (int i = 0; i < due.length; i++) {
            Check.same("item " + i + " of " + s, wire.get(s, 2, i), due[i]);
        }
        Check.same("no more of " + s, wire.get(s, 2, due.length), LEAST);
    }

    private static void sheets(Edges edges) {
        edges.add("27 sheet: of 0 to 60 items, above BAD", () -> {
            ChessWire wire = new ChessWire();
            Check.same("0", wire.sheet(0, 2, 0), 0);
            Check.same("none", wire.lose(0), 0);
            Check.same("60", wire.sheet(0, 2, 60), 60);
            Check.same("the last", wire.lay(0, 2, 59, 7), 1);
            Check.same("61", wire.sheet(0, 2, 61), ChessWire.BAD);
            Check.same("the most", wire.sheet(0, 2, Integer.MAX_VALUE), ChessWire.BAD);
            Check.same("as it was", wire.get(0, 2, 59), 7);
        });
        edges.add("27 sheet: SIZE: below 0", () -> {
            ChessWire wire = numbered();
            Check.same("-1", wire.sheet(0, 2, -1), SIZE);
            Check.same("count 8", wire.count(8), 5);
            Check.same("the least", wire.sheet(3, 0, Integer.MIN_VALUE), SIZE);
            isRow(wire, 0, 1, 2, 3, 4, 5, 6);
            Check.same("still lost", wire.lose(3), NULL);
        });
        edges.add("27 sheet: items are 0 at first, those of a new row again", () -> {
            ChessWire wire = numbered();
            wire.sheet(0, 2, 3);
            isRow(wire, 0, 0, 0, 0);
            wire.sheet(0, 2, 6);
            isRow(wire, 0, 0, 0, 0, 0, 0, 0);
        });
        edges.add("27 sheet: a LOST one is there again", () -> {
            ChessWire wire = numbered();
            wire.lose(0);
            wire.sheet(0, 2, 2);
            isRow(wire, 0, 0, 0);
        });
    }

    private static void refusedSheets(Edges edges) {
        edges.add("27 sheet: a SHEET is 0 to 3, else BAD", () -> {
            for (int s : NO_SHEETS) {
                Check.same("sheet " + s, new ChessWire().sheet(s, 0, 1), ChessWire.BAD);
            }
            Check.same("3", new ChessWire().sheet(3, 0, 1), 1);
        });
        edges.add("27 sheet: a FORM is 0 to 2, else BAD", () -> {
            for (int form : NO_FORMS) {
                Check.same("form " + form, new ChessWire().sheet(0, form, 1), ChessWire.BAD);
            }
        });
        edges.add("27 sheet: BAD comes ahead of SIZE", () -> {
            ChessWire wire = new ChessWire();
            Check.same("sheet", wire.sheet(4, 0, -1), ChessWire.BAD);
            Check.same("form", wire.sheet(0, 3, -1), ChessWire.BAD);
            Check.same("no finding", wire.count(8), 0);
        });
    }

    private static void losing(Edges edges) {
        edges.add("28 lose: how many items it had, 0 of an empty row", () -> {
            ChessWire wire = numbered();
            Check.same("six", wire.lose(0), 6);
            wire.sheet(0, 0, 0);
            Check.same("none", wire.lose(0), 0);
            wire.sheet(0, 0, 60);
            Check.same("sixty", wire.lose(0), 60);
        });
        edges.add("28 lose: NULL", () -> {
            ChessWire wire = numbered();
            Check.same("never there", wire.lose(2), NULL);
            wire.lose(0);
            Check.same("twice", wire.lose(0), NULL);
            Check.same("count 8", wire.count(8), 1);
        });
        edges.add("28 lose: a SHEET is 0 to 3, else BAD", () -> {
            for (int s : NO_SHEETS) {
                Check.same("sheet " + s, new ChessWire().lose(s), ChessWire.BAD);
            }
        });
    }

    private static void lay(int form, int v, int due) {
        ChessWire wire = new ChessWire();
        wire.sheet(form, form, 1);
        Check.same("lay", wire.lay(form, form, 0, v), 1);
        Check.same(v + " in form " + form, wire.get(form, form, 0), due);
    }

    private static void laying(Edges edges) {
        edges.add("29 lay: a byte has the lowest eight bits, with their sign", () -> {
            lay(0, 127, 127);
            lay(0, 128, -128);
            lay(0, -128, -128);
            lay(0, -129, 127);
            lay(0, 255, -1);
            lay(0, 256, 0);
            lay(0, Integer.MAX_VALUE, -1);
            lay(0, Integer.MIN_VALUE, 0);
        });
        edges.add("29 lay: a short has the lowest sixteen bits, with their sign", () -> {
            lay(1, 32767, 32767);
            lay(1, 32768, -32768);
            lay(1, -32768, -32768);
            lay(1, -32769, 32767);
            lay(1, 65535, -1);
            lay(1, 65536, 0);
            lay(1, Integer.MAX_VALUE, -1);
            lay(1, Integer.MIN_VALUE, 0);
        });
        edges.add("29 lay: an int has all bits", () -> {
            lay(2, Integer.MAX_VALUE, Integer.MAX_VALUE);
            lay(2, Integer.MIN_VALUE, Integer.MIN_VALUE);
            lay(2, -1, -1);
            lay(2, 65536, 65536);
        });
        edges.add("29 lay: the first and the last item, no other", () -> {
            ChessWire wire = numbered();
            Check.same("first", wire.lay(0, 2, 0, 10), 1);
            Check.same("last", wire.lay(0, 2, 5, 60), 1);
            isRow(wire, 0, 10, 2, 3, 4, 5, 60);
        });
    }

    private static void refusedLaying(Edges edges) {
        edges.add("29 lay: a SHEET is 0 to 3, a FORM 0 to 2, else BAD", () -> {
            for (int s : NO_SHEETS) {
                Check.same("sheet " + s, numbered().lay(s, 2, 0, 9), ChessWire.BAD);
            }
            for (int form : NO_FORMS) {
                Check.same("form " + form, numbered().lay(0, form, 0, 9), ChessWire.BAD);
            }
        });
        edges.add("29 lay: BAD comes ahead of NULL", () -> {
            ChessWire wire = new ChessWire();
            Check.same("form", wire.lay(0, 3, 0, 9), ChessWire.BAD);
            Check.same("no finding", wire.count(8), 0);
        });
        edges.add("29 lay: NULL", () -> {
            ChessWire wire = new ChessWire();
            Check.same("lost", wire.lay(0, 2, 99, 9), NULL);
            Check.same("count 8", wire.count(8), 1);
        });
        edges.add("29 lay: CAST, ahead of INDEX", () -> {
            ChessWire wire = numbered();
            Check.same("as a byte", wire.lay(0, 0, 0, 9), CAST);
            Check.same("as a short, beyond", wire.lay(0, 1, 6, 9), CAST);
            Check.same("count 8", wire.count(8), 3);
            isRow(wire, 0, 1, 2, 3, 4, 5, 6);
        });
        edges.add("29 lay: INDEX: there is no such item", () -> {
            ChessWire wire = numbered();
            for (int i : new int[] {-1, 6, 59, 60, Integer.MIN_VALUE, Integer.MAX_VALUE}) {
                Check.same("item " + i, wire.lay(0, 2, i, 9), INDEX);
            }
            Check.same("count 8", wire.count(8), 2);
            isRow(wire, 0, 1, 2, 3, 4, 5, 6);
            wire.sheet(3, 2, 0);
            Check.same("of none", wire.lay(3, 2, 0, 9), INDEX);
        });
    }

    private static void getting(Edges edges) {
        edges.add("30 get: the first and the last item", () -> {
            ChessWire wire = numbered();
            Check.same("first", wire.get(0, 2, 0), 1);
            Check.same("last", wire.get(0, 2, 5), 6);
        });
        edges.add("30 get: an item that is the least int is no finding", () -> {
            ChessWire wire = numbered();
            wire.lay(0, 2, 0, LEAST);
            Check.same("item", wire.get(0, 2, 0), LEAST);
            Check.same("count 8", wire.count(8), 0);
        });
        edges.add("30 get: BAD: the least int, without a finding", () -> {
            ChessWire wire = numbered();
            for (int s : NO_SHEETS) {
                Check.same("sheet " + s, wire.get(s, 2, 0), LEAST);
            }
            for (int form : NO_FORMS) {
                Check.same("form " + form, wire.get(0, form, 0), LEAST);
                Check.same("lost, form " + form, wire.get(3, form, 0), LEAST);
            }
            Check.same("count 8", wire.count(8), 0);
        });
    }

    private static void refusedGetting(Edges edges) {
        edges.add("30 get: NULL: the least int; count() 8 tells", () -> {
            ChessWire wire = numbered();
            Check.same("lost", wire.get(2, 1, 99), LEAST);
            Check.same("count 8", wire.count(8), 1);
        });
        edges.add("30 get: CAST, ahead of INDEX: the least int; count() 8 tells", () -> {
            ChessWire wire = numbered();
            Check.same("as a byte", wire.get(0, 0, 0), LEAST);
            Check.same("count 8", wire.count(8), 3);
            wire.lose(2);
            Check.same("as a short, beyond", wire.get(0, 1, 6), LEAST);
            Check.same("count 8", wire.count(8), 3);
        });
        edges.add("30 get: INDEX: the least int; count() 8 tells", () -> {
            for (int i : new int[] {-1, 6, 60, Integer.MIN_VALUE, Integer.MAX_VALUE}) {
                ChessWire wire = numbered();
                Check.same("item " + i, wire.get(0, 2, i), LEAST);
                Check.same("count 8", wire.count(8), 2);
            }
        });
    }

    private static void copying(Edges edges) {
        edges.add("31 copy: all items, and none", () -> {
            ChessWire wire = numbered();
            Check.same("all that there is room for", wire.copy(0, 2, 1, 0, 4), 1);
            isRow(wire, 1, 3, 4, 5, 6);
            Check.same("none", wire.copy(0, 0, 1, 0, 0), 1);
            isRow(wire, 1, 3, 4, 5, 6);
            isRow(wire, 0, 1, 2, 3, 4, 5, 6);
        });
        edges.add("31 copy: within one SHEET, as they were", () -> {
            ChessWire up = numbered();
            Check.same("upward", up.copy(0, 0, 0, 1, 5), 1);
            isRow(up, 0, 1, 1, 2, 3, 4, 5);
            ChessWire down = numbered();
            Check.same("downward", down.copy(0, 1, 0, 0, 5), 1);
            isRow(down, 0, 2, 3, 4, 5, 6, 6);
            Check.same("in place", down.copy(0, 0, 0, 0, 6), 1);
            isRow(down, 0, 2, 3, 4, 5, 6, 6);
        });
        edges.add("31 copy: with n 0, i and j may be how many there are", () -> {
            ChessWire wire = numbered();
            Check.same("at both ends", wire.copy(0, 6, 1, 4, 0), 1);
            wire.sheet(2, 2, 0);
            Check.same("of no items", wire.copy(2, 0, 2, 0, 0), 1);
            Check.same("no finding", wire.count(8), 0);
        });
    }

    private static void refusedCopying(Edges edges) {
        edges.add("31 copy: SHEETS are 0 to 3, else BAD", () -> {
            for (int s : NO_SHEETS) {
                Check.same("from " + s, numbered().copy(s, 0, 0, 0, 1), ChessWire.BAD);
                Check.same("to " + s, numbered().copy(0, 0, s, 0, 1), ChessWire.BAD);
            }
        });
        edges.add("31 copy: BAD comes ahead of NULL", () -> {
            ChessWire wire = new ChessWire();
            Check.same("from a lost one to no sheet", wire.copy(0, 0, 4, 0, 0), ChessWire.BAD);
            Check.same("no finding", wire.count(8), 0);
        });
        edges.add("31 copy: NULL: s, t", () -> {
            ChessWire wire = numbered();
            Check.same("from", wire.copy(2, 0, 0, 0, 1), NULL);
            Check.same("from, none", wire.copy(2, 0, 0, 0, 0), NULL);
            Check.same("to, none", wire.copy(0, 0, 2, 0, 0), NULL);
            Check.same("to", wire.copy(0, 0, 2, 0, 1), NULL);
            Check.same("both, of none", wire.copy(2, 0, 2, 0, 0), NULL);
            Check.same("count 8", wire.count(8), 1);
        });
        edges.add("31 copy: STORE: unlike FORMS, behind NULL, ahead of INDEX", () -> {
            ChessWire wire = numbered();
            wire.sheet(2, 1, 6);
            Check.same("shorts to ints", wire.copy(2, 0, 0, 0, 1), STORE);
            Check.same("ints to shorts, none", wire.copy(0, 0, 2, 0, 0), STORE);
            Check.same("count 8", wire.count(8), 4);
            Check.same("beyond, too", wire.copy(0, 7, 2, -1, -1), STORE);
            Check.same("to a lost one", wire.copy(2, 0, 3, 0, 1), NULL);
            isRow(wire, 0, 1, 2, 3, 4, 5, 6);
        });
    }

    private static void index(int i, int j, int n) {
        ChessWire wire = numbered();
        Check.same("copy of " + n + " from " + i + " to " + j, wire.copy(0, i, 1, j, n), INDEX);
        Check.same("count 8", wire.count(8), 2);
        isRow(wire, 0, 1, 2, 3, 4, 5, 6);
        isRow(wire, 1, 0, 0, 0, 0);
    }

    private static void copyingBeyond(Edges edges) {
        edges.add("31 copy: INDEX: below 0", () -> {
            index(-1, 0, 1);
            index(0, -1, 1);
            index(0, 0, -1);
            index(-1, 0, 0);
            index(0, -1, 0);
            index(6, 4, -1);
            index(Integer.MIN_VALUE, 0, 1);
            index(0, Integer.MIN_VALUE, 1);
            index(0, 0, Integer.MIN_VALUE);
        });
        edges.add("31 copy: INDEX: not so many", () -> {
            index(3, 0, 4);
            index(6, 0, 1);
            index(0, 1, 4);
            index(0, 4, 1);
            index(0, 0, 5);
            index(1, 0, Integer.MAX_VALUE);
            index(1, 1, Integer.MAX_VALUE);
            index(Integer.MAX_VALUE, 0, 1);
            index(0, Integer.MAX_VALUE, Integer.MAX_VALUE);
        });
        edges.add("31 copy: INDEX with n 0, too, if i or j is above how many there are", () -> {
            index(7, 0, 0);
            index(0, 5, 0);
            index(Integer.MAX_VALUE, 0, 0);
            index(0, Integer.MAX_VALUE, 0);
        });
    }

    private static void writing(Edges edges) {
        edges.add("32 write: as many as there are MOVES", () -> {
            ChessWire wire = numbered();
            Check.same("three", wire.write(0), 3);
            isRow(wire, 0, 1, 8, 9, 4, 5, 6);
        });
        edges.add("32 write: as many as there are items", () -> {
            ChessWire wire = new ChessWire();
            wire.sheet(0, 2, 2);
            Check.same("two", wire.write(0), 2);
            isRow(wire, 0, 1, 8);
            wire.sheet(0, 2, 0);
            Check.same("none", wire.write(0), 0);
        });
        edges.add("32 write: of no MOVES", () -> {
            ChessWire wire = Check.on("7k/5Q2/6K1/8/8/8/8/8 b");
            wire.sheet(0, 2, 1);
            wire.lay(0, 2, 0, 5);
            Check.same("none", wire.write(0), 0);
            isRow(wire, 0, 5);
        });
        edges.add("32 write: a SHEET is 0 to 3, else BAD", () -> {
            for (int s : NO_SHEETS) {
                Check.same("sheet " + s, new ChessWire().write(s), ChessWire.BAD);
            }
        });
        edges.add("32 write: NULL", () -> {
            ChessWire wire = new ChessWire();
            Check.same("lost", wire.write(3), NULL);
            Check.same("count 8", wire.count(8), 1);
        });
    }

    private static void writingBits(Edges edges) {
        edges.add("32 write: of each the lowest bits that an item has, with its sign", () -> {
            ChessWire wire = Check.on("k7/8/8/8/8/8/8/K7 b");
            for (int form = 0; form < 3; form++) {
                wire.sheet(form, form, 3);
                Check.same("three", wire.write(form), 3);
            }
            int b8 = Check.code("a8b8");
            Check.same("a8b8 is " + b8, b8, 3641);
            Check.same("a byte", wire.get(0, 0, 2), 3641 - 14 * 256);
            Check.same("a short", wire.get(1, 1, 2), 3641);
            Check.same("an int", wire.get(2, 2, 2), 3641);
            ChessWire below = Check.on("7k/8/8/8/8/8/8/K7 b");
            below.sheet(0, 0, 3);
            below.write(0);
            Check.same("h8g7, a byte below 0", below.get(0, 0, 0), 4086 - 16 * 256);
        });
    }

    private static void counts(Edges edges) {
        edges.add("33 count: what is 0 to 8, else BAD", () -> {
            for (int what : new int[] {-1, 9, Integer.MIN_VALUE, Integer.MAX_VALUE}) {
                Check.same("what " + what, new ChessWire().count(what), ChessWire.BAD);
            }
        });
        edges.add("33 count: of a full board and full texts", () -> {
            ChessWire wire = Check.on("kQQQQQQQ/QQQQQQQQ/QQQQQQQQ/QQQQQQQQ/QQQQQQQQ/QQQQQQQQ/QQQQQQQQ/QQQQQQQK b");
            Check.same("men", wire.count(0), 64);
            Check.same("white ones", wire.count(1), 63);
            Check.same("weights of none", wire.count(7), 0);
            for (int i = 0; i < 80; i++) {
                wire.type(0, 'K');
                wire.type(1, 'K');
                wire.type(2, 'K');
            }
            Check.same("text 0", wire.count(2), 80);
            Check.same("text 1", wire.count(3), 10);
            Check.same("text 2", wire.count(4), 60);
        });
        edges.add("33 count: a king that was taken is none of the MEN", () -> {
            ChessWire wire = Check.on("k7/8/8/8/8/8/8/R6K w");
            wire.play(Check.code("a1a8"));
            Check.same("men", wire.count(0), 2);
            Check.same("white ones", wire.count(1), 2);
            Check.same("weights of none", wire.count(7), 0);
        });
        edges.add("33 count: 8 the number of the latest FINDING, 0 before any", () -> {
            ChessWire wire = new ChessWire();
            Check.same("before any", wire.count(8), 0);
            wire.lose(0);
            Check.same("NULL", wire.count(8), 1);
            wire.sheet(0, 2, -1);
            Check.same("SIZE", wire.count(8), 5);
            wire.sheet(0, 2, 1);
            Check.same("it stays", wire.count(8), 5);
            wire.lay(0, 2, 1, 0);
            Check.same("INDEX", wire.count(8), 2);
        });
    }

    private static void findings(Edges edges) {
        edges.add("FINDINGS are -10 less their number, 1 to 5", () -> {
            ChessWire wire = numbered();
            wire.sheet(2, 0, 1);
            int[] found = {wire.lose(3), wire.lay(0, 2, 6, 0), wire.lay(0, 0, 0, 0), wire.copy(0, 0, 2, 0, 1),
                wire.sheet(0, 0, -1)};
            for (int number = 1; number <= 5; number++) {
                Check.same("finding " + number, found[number - 1], -10 - number);
            }
        });
        edges.add("FINDINGS change nothing but count() 8", () -> {
            ChessWire wire = numbered();
            wire.sheet(2, 0, 1);
            wire.play(1);
            long before = wire.digest();
            Check.same("read", wire.read(3), NULL);
            Check.same("write", wire.write(3), NULL);
            Check.same("copy", wire.copy(0, 0, 3, 0, 0), NULL);
            Check.same("lose", wire.lose(3), NULL);
            Check.same("lay", wire.lay(0, 2, 6, 9), INDEX);
            Check.same("lay", wire.lay(0, 0, 0, 9), CAST);
            Check.same("get", wire.get(0, 1, 0), LEAST);
            Check.same("copy", wire.copy(0, 0, 2, 0, 1), STORE);
            Check.same("copy", wire.copy(0, 0, 1, 0, 5), INDEX);
            Check.same("sheet", wire.sheet(0, 0, -1), SIZE);
            Check.same("digest", wire.digest(), before);
            isRow(wire, 0, 1, 2, 3, 4, 5, 6);
            isRow(wire, 1, 0, 0, 0, 0);
            Check.same("item of 2", wire.get(2, 0, 0), 0);
            Check.same("3 is still lost", wire.lose(3), NULL);
        });
    }

    private static void refusals(Edges edges) {
        edges.add("refusals below -10 alone are FINDINGS: others leave count() 8", () -> {
            ChessWire wire = new ChessWire();
            wire.type(3, 0);
            wire.play(0);
            wire.sheet(0, 3, 1);
            wire.sheet(0, 0, 61);
            wire.lay(4, 0, 0, 0);
            wire.get(4, 0, 0);
            wire.copy(0, 0, 4, 0, 0);
            wire.write(4);
            wire.read(4);
            wire.lose(4);
            Check.same("count 8", wire.count(8), 0);
        });
        edges.add("refusals change nothing", () -> {
            ChessWire wire = Check.on(START);
            Check.type(wire, 1, "e4");
            Check.type(wire, 2, "e4;e5;d4;d5");
            wire.weight(0, 2);
            long before = wire.digest();
            wire.type(0, 256);
            wire.type(3, 'e');
            wire.wipe(3);
            wire.play(4096);
            wire.play(0);
            wire.weight(0, 10);
            wire.weight(6, 5);
            wire.answer(0, 0);
            wire.gain(0, 0, 0, 0);
            wire.ahead(0, 9, 50, 0);
            wire.readings();
            wire.reading(0, 0);
            wire.reading(3, 0);
            wire.sheet(0, 3, 1);
            Check.same("digest", wire.digest(), before);
            Check.same("the weight", wire.weight(0, 2), 2);
            Check.same("still lost", wire.lose(0), NULL);
        });
    }

    private static long digestOf(ChessWire wire) {
        long h = 17;
        for (int what = 0; what <= 7; what++) {
            h = 31 * h + wire.count(what);
        }
        for (int text = 0; text <= 2; text++) {
            h = 31 * h + wire.fault(text);
        }
        for (int square = 0; square <= 63; square++) {
            h = 31 * h + wire.square(square);
        }
        int[] told = {wire.side(), wire.state(), wire.moves(-1), wire.all(), wire.means(-1), wire.means(0),
            wire.could(-1), wire.table(2), wire.table(26)};
        for (int one : told) {
            h = 31 * h + one;
        }
        for (int i = -1; wire.moves(-1) > 0 && i < wire.shortest(wire.moves(0), -1); i++) {
            h = 31 * h + wire.shortest(wire.moves(0), i);
        }
        if (wire.moves(-1) > 0) {
            h = 31 * h + wire.ahead(wire.moves(0), 9, 50, -1);
        }
        for (int what = 0; what <= 2; what++) {
            h = 31 * h + wire.played(what);
        }
        return 31 * h + wire.purse(9);
    }

    private static void digests(Edges edges) {
        edges.add("34 digest: as longs that wrap", () -> {
            ChessWire wire = Check.on(START);
            Check.type(wire, 1, "N3");
            Check.type(wire, 2, "e4;e5;Nf;Nbc6;Pd4");
            Check.same("start", wire.digest(), digestOf(wire));
            Check.same("new", new ChessWire().digest(), digestOf(new ChessWire()));
            Check.that("beyond an int", wire.digest() != (int) wire.digest());
        });
        edges.add("34 digest: table(26), ahead(9, 50, NONE), purse(9)", () -> {
            ChessWire wire = Check.on("k7/2Q5/1K6/8/8/8/8/8 w");
            Check.that("a board for 26", wire.table(25) != wire.table(26));
            Check.same("26", wire.digest(), digestOf(wire));
            // More than eight that gain; some that gain from a FEE of 50 on; some from 51 on.
            for (String board : new String[] {"8/8/5n2/8/8/k5P1/8/7K w", "8/8/6K1/8/8/8/4r3/4k3 w",
                "8/8/8/3b4/2k5/8/2K5/8 w"}) {
                Check.retype(wire, 0, board);
                Check.same(board, wire.digest(), digestOf(wire));
            }
            Check.retype(wire, 0, START);
            Check.type(wire, 2, "e4;Pe5;Nf;b5");
            Check.same("nine signs", wire.digest(), digestOf(wire));
            Check.retype(wire, 2, "e4;Pe5;Nf;Pb5");
            Check.same("ten signs", wire.digest(), digestOf(wire));
        });
        edges.add("34 digest: of the first lawful MOVE, if there is one", () -> {
            ChessWire wire = Check.on("7k/5Q2/6K1/8/8/8/8/8 b");
            Check.same("no moves", wire.digest(), digestOf(wire));
            Check.retype(wire, 0, "K1k5/8/8/8/8/8/8/8 w");
            Check.same("one move", wire.digest(), digestOf(wire));
        });
        edges.add("34 digest: it tells nothing of FINDINGS and SHEETS", () -> {
            ChessWire wire = new ChessWire();
            long before = wire.digest();
            wire.lose(0);
            wire.sheet(0, 2, 9);
            Check.same("digest", wire.digest(), before);
        });
    }
}
