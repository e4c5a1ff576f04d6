/** Promises 27 to 34: sheets, their findings, counts and the digest. */
public final class SheetTest {
    private static final String START = "rnbqkbnr/pppppppp/8/8/8/8/PPPPPPPP/RNBQKBNR w";

    private SheetTest() {
    }

    public static void main(String[] args) {
        sheets();
        losing();
        laying();
        getting();
        copying();
        copyingFindings();
        writing();
        counts();
        refusalsChangeNothing();
        digests();
        Check.end("SheetTest");
    }

    private static void sheets() {
        ChessWire wire = new ChessWire();
        Check.same("most items", wire.sheet(0, 0, 60), 60);
        Check.same("none", wire.sheet(3, 2, 0), 0);
        Check.same("too many", wire.sheet(0, 0, 61), ChessWire.BAD);
        Check.same("no form", wire.sheet(0, 3, 1), ChessWire.BAD);
        Check.same("no form", wire.sheet(0, -1, 1), ChessWire.BAD);
        Check.same("no sheet", wire.sheet(4, 0, 1), ChessWire.BAD);
        Check.same("no sheet", wire.sheet(-1, 0, -1), ChessWire.BAD);
        Check.same("no finding yet", wire.count(8), 0);
        Check.same("below 0", wire.sheet(0, 0, -1), -15);
        Check.same("below 0", wire.sheet(0, 0, Integer.MIN_VALUE), -15);
        Check.same("SIZE", wire.count(8), 5);
        wire.lay(0, 0, 59, 7);
        Check.same("as it was", wire.get(0, 0, 59), 7);
        wire.sheet(0, 0, 60);
        Check.same("a new row is of 0", wire.get(0, 0, 59), 0);
    }

    private static void losing() {
        ChessWire wire = new ChessWire();
        Check.same("lost at first", wire.lose(2), -11);
        Check.same("NULL", wire.count(8), 1);
        wire.sheet(2, 1, 5);
        Check.same("had", wire.lose(2), 5);
        Check.same("lost", wire.lose(2), -11);
        wire.sheet(2, 1, 0);
        Check.same("a sheet of nothing is none that is lost", wire.lose(2), 0);
        Check.same("no sheet", wire.lose(4), ChessWire.BAD);
        Check.same("no sheet", wire.lose(-1), ChessWire.BAD);
    }

    private static void laying() {
        ChessWire wire = new ChessWire();
        Check.same("lost", wire.lay(0, 0, 0, 0), -11);
        for (int form = 0; form < 3; form++) {
            wire.sheet(form, form, 3);
            for (int other = 0; other < 3; other++) {
                Check.same("as of a form", wire.lay(form, other, 2, -1), form == other ? 1 : -13);
                Check.same("CAST ahead of INDEX", wire.lay(form, other, 3, -1), form == other ? -12 : -13);
            }
            Check.same("below 0", wire.lay(form, form, -1, 0), -12);
            Check.same("INDEX", wire.count(8), 2);
        }
        wire.lay(0, 0, 0, 200);
        wire.lay(1, 1, 0, 40000);
        wire.lay(2, 2, 0, Integer.MIN_VALUE);
        Check.same("a byte", wire.get(0, 0, 0), -56);
        Check.same("a short", wire.get(1, 1, 0), -25536);
        Check.same("an int", wire.get(2, 2, 0), Integer.MIN_VALUE);
        wire.lay(0, 0, 0, 256 + 127);
        wire.lay(1, 1, 0, -65536 - 32768);
        Check.same("a byte", wire.get(0, 0, 0), 127);
        Check.same("a short", wire.get(1, 1, 0), -32768);
        Check.same("no sheet", wire.lay(4, 0, 0, 0), ChessWire.BAD);
        Check.same("no form", wire.lay(0, 3, 0, 0), ChessWire.BAD);
        Check.same("no form", wire.lay(3, -1, 0, 0), ChessWire.BAD);
    }

    private static void getting() {
        ChessWire wire = new ChessWire();
        Check.same("BAD", wire.get(4, 0, 0), Integer.MIN_VALUE);
        Check.same("BAD", wire.get(0, 3, 0), Integer.MIN_VALUE);
        Check.same("no finding", wire.count(8), 0);
        Check.same("NULL", wire.get(0, 0, 0), Integer.MIN_VALUE);
        Check.same("NULL", wire.count(8), 1);
        wire.sheet(0, 1, 2);
        Check.same("INDEX", wire.get(0, 1, 2), Integer.MIN_VALUE);
        Check.same("INDEX", wire.count(8), 2);
        Check.same("CAST", wire.get(0, 2, 5), Integer.MIN_VALUE);
        Check.same("CAST", wire.count(8), 3);
        Check.same("INDEX", wire.get(0, 1, -1), Integer.MIN_VALUE);
        Check.same("INDEX", wire.count(8), 2);
        Check.same("an item", wire.get(0, 1, 1), 0);
        Check.same("the latest finding stays", wire.count(8), 2);
    }

    private static ChessWire numbered() {
        ChessWire wire = new ChessWire();
        wire.sheet(0, 2, 6);
        wire.sheet(1, 2, 4);
        for (int i = 0; i < 6; i++) {
            wire.lay(0, 2, i, i + 1);
        }
        return wire;
    }

    private static void isRow(ChessWire wire, int s, int... due) {
        for (int i = 0; i < due.length; i++) {
            Check.same("item " + i, wire.get(s, 2, i), due[i]);
        }
    }

    private static void copying() {
        ChessWire wire = numbered();
        Check.same("copy", wire.copy(0, 2, 1, 1, 3), 1);
        isRow(wire, 1, 0, 3, 4, 5);
        Check.same("upward within one", wire.copy(0, 0, 0, 1, 4), 1);
        isRow(wire, 0, 1, 1, 2, 3, 4, 6);
        wire = numbered();
        Check.same("downward within one", wire.copy(0, 2, 0, 0, 4), 1);
        isRow(wire, 0, 3, 4, 5, 6, 5, 6);
        Check.same("nothing at the ends", wire.copy(0, 6, 1, 4, 0), 1);
        Check.same("all", wire.copy(1, 0, 0, 0, 4), 1);
        isRow(wire, 0, 0, 0, 0, 0, 5, 6);
    }

    private static void copyingFindings() {
        ChessWire wire = numbered();
        Check.same("no sheet", wire.copy(4, 0, 0, 0, 0), ChessWire.BAD);
        Check.same("no sheet", wire.copy(0, 0, -1, 0, 0), ChessWire.BAD);
        Check.same("BAD ahead of NULL", wire.copy(3, 0, 4, 0, 0), ChessWire.BAD);
        Check.same("lost", wire.copy(2, 0, 0, 0, 0), -11);
        Check.same("lost", wire.copy(0, 0, 2, 0, 0), -11);
        wire.sheet(2, 1, 9);
        Check.same("NULL ahead of STORE", wire.copy(2, 0, 3, 0, 0), -11);
        Check.same("STORE ahead of INDEX", wire.copy(0, -1, 2, 0, 0), -14);
        Check.same("STORE", wire.count(8), 4);
        int[][] wrong = {{-1, 0, 0}, {0, -1, 0}, {0, 0, -1}, {0, 0, 5}, {3, 0, 4}, {7, 0, 0}, {0, 5, 0}, {0, 4, 1},
            {6, 0, 1}, {1, 0, Integer.MAX_VALUE}, {Integer.MAX_VALUE, 0, 1}, {0, Integer.MAX_VALUE, 1},
            {Integer.MIN_VALUE, 0, 0}, {0, 0, Integer.MIN_VALUE}};
        for (int[] one : wrong) {
            Check.same("INDEX", wire.copy(0, one[0], 1, one[1], one[2]), -12);
        }
        isRow(wire, 0, 1, 2, 3, 4, 5, 6);
        isRow(wire, 1, 0, 0, 0, 0);
    }

    private static void writing() {
        ChessWire wire = Check.on(START);
        wire.sheet(0, 1, 30);
        wire.lay(0, 1, 20, 5);
        Check.same("all moves", wire.write(0), 20);
        for (int i = 0; i < 20; i++) {
            Check.same("in order", wire.get(0, 1, i), wire.moves(i));
        }
        Check.same("the rest stays", wire.get(0, 1, 20), 5);
        wire.sheet(1, 0, 5);
        Check.same("as many as there are items", wire.write(1), 5);
        Check.same("the lowest bits: b1 c3 is 82", wire.get(1, 0, 1), 82);
        Check.same("a2 a3 is 528", wire.get(1, 0, 4), 16);
        Check.same("g1 f3 is 405, its lowest bits below 0", wire.get(1, 0, 2), 405 - 512);
        Check.same("lost", wire.write(2), -11);
        Check.same("no sheet", wire.write(4), ChessWire.BAD);
        wire.sheet(2, 2, 0);
        Check.same("no items", wire.write(2), 0);
        wire.play(wire.get(0, 1, 3));
        Check.same("black's", wire.write(0), 20);
    }

    private static void counts() {
        ChessWire wire = Check.on(START);
        Check.type(wire, 1, "abc");
        Check.type(wire, 2, "e4;d5");
        int[] due = {32, 16, START.length(), 3, 5, 0, 2, 20, 0};
        for (int what = 0; what < due.length; what++) {
            Check.same("count(" + what + ")", wire.count(what), due[what]);
        }
        Check.same("no such", wire.count(9), ChessWire.BAD);
        Check.same("no such", wire.count(-1), ChessWire.BAD);
        wire.play(Check.code("e2", "e4"));
        wire.play(Check.code("d7", "d5"));
        wire.play(Check.code("e4", "d5"));
        Check.same("one is gone", wire.count(0), 31);
        Check.same("a black one", wire.count(1), 16);
        Check.same("three played", wire.count(5), 3);
    }

    private static void refusalsChangeNothing() {
        ChessWire wire = numbered();
        Check.type(wire, 2, "Ka2");
        long before = wire.digest();
        wire.type(3, 0);
        wire.wipe(-1);
        wire.play(4096);
        wire.play(0);
        wire.weight(0, 10);
        wire.weight(6, 1);
        wire.gain(0, 0, 0, 0);
        wire.copy(0, 0, 3, 0, 1);
        wire.sheet(0, 2, -1);
        wire.read(3);
        Check.same("all as before", wire.digest(), before);
        isRow(wire, 0, 1, 2, 3, 4, 5, 6);
    }

    private static void digests() {
        Check.same("of a new object", new ChessWire().digest(), new PlainWire().digest());
        ChessWire wire = new ChessWire();
        long bare = wire.digest();
        Check.same("asking changes nothing", wire.digest(), bare);
        long h = 17;
        int first = wire.moves(0);
        int[] counts = {2, 1, 0, 0, 0, 0, 0, 3};
        for (int count : counts) {
            h = 31 * h + count;
        }
        int[] faults = {0, 0, -1};
        for (int fault : faults) {
            h = 31 * h + fault;
        }
        for (int square = 0; square < 64; square++) {
            h = 31 * h + (square == 0 ? 'K' : square == 63 ? 'k' : 0);
        }
        int[] rest = {0, 0, 3, 4, 0, -1, 0, 5, 3, 1, '1', wire.ahead(first, 9, 50, -1), -1, 0, 0, -1};
        for (int one : rest) {
            h = 31 * h + one;
        }
        Check.same("by hand", bare, h);
        wire.type(1, 'a');
        Check.that("a byte more", wire.digest() != bare);
        wire.wipe(1);
        Check.same("a byte less", wire.digest(), bare);
        wire.play(1);
        Check.that("a move", wire.digest() != bare);
        wire.home();
        Check.same("home", wire.digest(), bare);
        ChessWire stuck = Check.on("7k/5Q2/6K1/8/8/8/8/8 b");
        PlainWire plain = new PlainWire();
        for (char c : "7k/5Q2/6K1/8/8/8/8/8 b".toCharArray()) {
            plain.type(0, c);
        }
        Check.same("without a first move", stuck.digest(), plain.digest());
    }
}
