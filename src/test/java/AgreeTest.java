import java.util.ArrayList;
import java.util.List;

/** Long runs of calls made up by a counter: ChessWire and PlainWire must answer alike, whatever is asked. */
public final class AgreeTest {
    private static final int[] EDGES = {Integer.MIN_VALUE, -3, -2, -1, 0, 1, 2, 3, 4, 5, 6, 9, 10, 25, 26, 27, 60, 61,
        63, 64, 99, 100, 255, 256, 4095, 4096, Integer.MAX_VALUE};
    private static final String START = "rnbqkbnr/pppppppp/8/8/8/8/PPPPPPPP/RNBQKBNR w";

    private final List<String> calls = new ArrayList<>();
    private long seed;
    private ChessWire wire;
    private PlainWire plain;
    private int compared;

    private AgreeTest(long seed) {
        this.seed = seed;
    }

    public static void main(String[] args) {
        int runs = args.length > 0 ? Integer.parseInt(args[0]) : 220;
        int start = args.length > 1 ? Integer.parseInt(args[1]) : 0;
        AgreeTest test = null;
        int all = 0;
        for (int run = start; run < start + runs; run++) {
            test = new AgreeTest(run * 7919L + 17);
            test.run(run);
            all += test.compared;
        }
        Check.that("the two disagree nowhere", all > 0);
        System.out.println("AgreeTest compared " + all + " answers");
        Check.end("AgreeTest");
    }

    private int below(int n) {
        seed = seed * 6364136223846793005L + 1442695040888963407L;
        return (int) ((seed >>> 33) % n);
    }

    private void same(String call, long got, long due) {
        calls.add(call);
        compared++;
        if (got != due) {
            System.out.println(String.join("\n", calls));
            System.out.println("answered " + got + ", plainly " + due);
            System.exit(1);
        }
    }

    private void run(int number) {
        wire = new ChessWire();
        plain = new PlainWire();
        if (number % 11 > 0) {
            tell(0, number % 7 == 0 ? START : board(number % 5));
        }
        for (int step = 0; step < 40; step++) {
            act();
        }
        same("digest()", wire.digest(), plain.digest());
    }

    private void tell(int text, String said) {
        same("wipe(" + text + ")", wire.wipe(text), plain.wipe(text));
        for (char c : said.toCharArray()) {
            same("type(" + text + ", " + (int) c + ")", wire.type(text, c), plain.type(text, c));
        }
        same("fault(" + text + ")", wire.fault(text), plain.fault(text));
    }

    private String board(int kind) {
        int share = new int[] {8, 25, 60, 97, 22}[kind];
        PlainWire.Place at = new PlainWire.Place();
        for (int square = 0; square < 64; square++) {
            boolean here = below(100) < share;
            String letters = kind > 2 && below(3) > 0 ? "QNRB" : "PPNBRQppnbrq";
            at.men[square] = here ? letters.charAt(below(letters.length())) : '.';
        }
        at.men[below(32)] = 'K';
        at.men[32 + below(32)] = 'k';
        at.white = below(2) == 0;
        return below(12) == 0 ? spoilt(at.text()) : at.text();
    }

    private String spoilt(String text) {
        String letters = "12345678/ wbKkPpQ;aeh\u00ff9";
        StringBuilder spoilt = new StringBuilder(text);
        int at = below(text.length());
        if (below(3) == 0) {
            spoilt.setLength(at);
        } else if (below(2) == 0) {
            spoilt.insert(at, letters.charAt(below(letters.length())));
        } else {
            spoilt.setCharAt(at, letters.charAt(below(letters.length())));
        }
        return spoilt.toString();
    }

    private int lawfulMove() {
        int n = plain.moves(-1);
        return n == 0 || below(12) == 0 ? number() : plain.moves(below(n));
    }

    private int number() {
        return below(3) == 0 ? below(4096) : EDGES[below(EDGES.length)];
    }

    private int small(int most) {
        return below(15) == 0 ? number() : below(most + 2) - 1;
    }

    private int near(int most) {
        return below(15) == 0 ? number() : below(most + 1);
    }

    private String saying(PlainWire.Place at, int move) {
        List<String> all = new ArrayList<>(new java.util.TreeSet<>(at.sayingsOf(move)));
        return all.get(below(all.size()));
    }

    private PlainWire.Place here() {
        PlainWire.Place at = new PlainWire.Place();
        for (int square = 0; square < 64; square++) {
            at.men[square] = plain.square(square) == 0 ? '.' : (char) plain.square(square);
        }
        at.white = plain.side() == 0;
        return at;
    }

    private String game(int most) {
        StringBuilder text = new StringBuilder();
        PlainWire.Place at = here();
        int parts = 1 + below(most);
        for (int part = 0; part < parts; part++) {
            List<Integer> moves = at.moves();
            if (moves.isEmpty()) {
                break;
            }
            int move = moves.get(below(moves.size()));
            boolean shortest = below(4) > 0 && most > 3;
            text.append(part > 0 ? ";" : "")
                .append(shortest ? at.shortest(moves).get(moves.indexOf(move)) : saying(at, move));
            at = at.after(move);
        }
        String game = text.length() == 0 ? "e4" : text.toString();
        return below(8) == 0 ? spoilt(game) : game;
    }

    private void act() {
        switch (below(12)) {
            case 0: askBoard(); break;
            case 1: playSome(); break;
            case 2: askSayings(); break;
            case 3: askSaying(); break;
            case 4: askWeights(); break;
            case 5: askAhead(); break;
            case 6: askGame(14); break;
            case 7: askGame(3); break;
            case 8: case 9: askSheets(); break;
            case 10: askSheets(); break;
            default: askCounts(); break;
        }
    }

    private void askBoard() {
        int square = near(64);
        same("square(" + square + ")", wire.square(square), plain.square(square));
        same("side()", wire.side(), plain.side());
        same("state()", wire.state(), plain.state());
        same("moves(-1)", wire.moves(-1), plain.moves(-1));
        int i = small(40);
        same("moves(" + i + ")", wire.moves(i), plain.moves(i));
        int move = below(2) == 0 ? number() : lawfulMove();
        same("lawful(" + move + ")", wire.lawful(move), plain.lawful(move));
        int text = near(3);
        int b = near(256);
        if (text != 0 || below(20) == 0) {
            same("type(" + text + ", " + b + ")", wire.type(text, b), plain.type(text, b));
        }
        same("fault(" + text + ")", wire.fault(text), plain.fault(text));
    }

    private void playSome() {
        for (int times = below(5); times >= 0; times--) {
            int move = lawfulMove();
            same("play(" + move + ")", wire.play(move), plain.play(move));
        }
        if (below(6) == 0) {
            same("home()", wire.home(), plain.home());
        }
        same("state()", wire.state(), plain.state());
    }

    private void askSayings() {
        int move = lawfulMove();
        for (int i = -2; i < 6; i++) {
            same("shortest(" + move + ", " + i + ")", wire.shortest(move, i), plain.shortest(move, i));
        }
        same("all()", wire.all(), plain.all());
    }

    private void askSaying() {
        PlainWire.Place at = here();
        List<Integer> moves = at.moves();
        String said = moves.isEmpty() || below(6) == 0 ? "Nb"
            : below(3) == 0 ? at.shortest(moves).get(below(moves.size()))
            : saying(at, moves.get(below(moves.size())));
        tell(1, below(3) == 0 ? spoilt(said) : said);
        int i = small(5);
        same("means(-1)", wire.means(-1), plain.means(-1));
        same("means(" + i + ")", wire.means(i), plain.means(i));
        same("could(-1)", wire.could(-1), plain.could(-1));
        same("could(" + i + ")", wire.could(i), plain.could(i));
    }

    private void askWeights() {
        int man = near(5);
        int v = below(3) == 0 ? 0 : near(9);
        same("weight(" + man + ", " + v + ")", wire.weight(man, v), plain.weight(man, v));
        int k = below(3) == 0 ? number() : 2 + below(26);
        same("table(" + k + ")", wire.table(k), plain.table(k));
        same("count(7)", wire.count(7), plain.count(7));
    }

    private void askAhead() {
        int move = lawfulMove();
        int i = small(30);
        int fee = near(99);
        int what = below(2);
        String behind = "(" + move + ", " + i;
        same("answer" + behind + ")", wire.answer(move, i), plain.answer(move, i));
        same("gain" + behind + ", " + fee + ", " + what + ")",
            wire.gain(move, i, fee, what), plain.gain(move, i, fee, what));
        int k = near(9);
        int best = small(9);
        same("ahead(" + move + ", " + k + ", " + fee + ", " + best + ")",
            wire.ahead(move, k, fee, best), plain.ahead(move, k, fee, best));
    }

    private void askGame(int most) {
        tell(2, game(most));
        for (int what = 0; what < 3; what++) {
            same("played(" + what + ")", wire.played(what), plain.played(what));
        }
        int i = small(5);
        same("move(" + i + ")", wire.move(i), plain.move(i));
        int v = near(30);
        same("purse(" + v + ")", wire.purse(v), plain.purse(v));
        same("count(6)", wire.count(6), plain.count(6));
        if (below(3) == 0) {
            same("readings()", wire.readings(), plain.readings());
            int part = near(3);
            int what = below(2);
            same("reading(" + part + ", " + what + ")", wire.reading(part, what), plain.reading(part, what));
        }
    }

    private void askSheets() {
        int s = near(4);
        int t = near(4);
        int form = near(3);
        int n = below(4) == 0 ? number() : below(12);
        int i = small(12);
        int j = small(12);
        int v = below(2) == 0 ? number() : lawfulMove();
        String of = "(" + s + ", ";
        switch (below(8)) {
            case 0: case 1: same("sheet" + of + form + ", " + n + ")", wire.sheet(s, form, n), plain.sheet(s, form, n));
                break;
            case 2: same("lay" + of + form + ", " + i + ", " + v + ")", wire.lay(s, form, i, v),
                plain.lay(s, form, i, v)); break;
            case 3: same("get" + of + form + ", " + i + ")", wire.get(s, form, i), plain.get(s, form, i)); break;
            case 4: same("copy" + of + i + ", " + t + ", " + j + ", " + n + ")", wire.copy(s, i, t, j, n),
                plain.copy(s, i, t, j, n)); break;
            case 5: same("write(" + s + ")", wire.write(s), plain.write(s)); break;
            case 6: same("read(" + s + ")", wire.read(s), plain.read(s)); break;
            default:
                if (below(3) == 0) {
                    same("lose(" + s + ")", wire.lose(s), plain.lose(s));
                }
                break;
        }
        same("count(8)", wire.count(8), plain.count(8));
    }

    private void askCounts() {
        int what = near(9);
        same("count(" + what + ")", wire.count(what), plain.count(what));
        if (below(4) == 0) {
            same("digest()", wire.digest(), plain.digest());
        }
        for (int s = 0; s < 4; s++) {
            for (int form = 0; form < 3; form++) {
                int i = below(5);
                same("get(" + s + ", " + form + ", " + i + ")", wire.get(s, form, i), plain.get(s, form, i));
            }
        }
    }
}
