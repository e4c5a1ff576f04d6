import java.math.BigInteger;
import java.util.ArrayList;
import java.util.Arrays;
import java.util.Comparator;
import java.util.HashSet;
import java.util.List;
import java.util.PriorityQueue;
import java.util.Set;
import java.util.TreeSet;

/**
 * The document once more, in the plainest way and by other means than ChessWire: sayings as texts, moves by looking
 * at all pairs of squares, attacks by looking at all moves. What it is slow in, it is slow in for plainness.
 */
final class PlainWire {
    private static final Set<String> SAYINGS = new HashSet<>();
    private static final Set<String> BEGINNINGS = new HashSet<>();
    private static final int[] ROOM = {80, 10, 60};

    static {
        for (String man : "|P|N|B|R|Q|K".split("\\|")) {
            for (char c = 'a'; c <= 'h'; c++) {
                SAYINGS.add(man + c);
            }
            for (char r = '1'; r <= '8'; r++) {
                SAYINGS.add(man + r);
            }
            for (String from : froms()) {
                for (int to = 0; to < 64; to++) {
                    SAYINGS.add(man + from + name(to));
                }
            }
        }
        for (String saying : SAYINGS) {
            for (int i = 0; i <= saying.length(); i++) {
                BEGINNINGS.add(saying.substring(0, i));
            }
        }
    }

    private final String[] texts = {"", "", ""};
    private final int[] weights = {1, 1, 1, 1, 1, 1};
    private final int[][] sheets = new int[4][];
    private final int[] forms = new int[4];
    private Place place = Place.bare();
    private int played;
    private int latest;

    private static List<String> froms() {
        List<String> all = new ArrayList<>();
        all.add("");
        for (int i = 0; i < 8; i++) {
            all.add("" + (char) ('a' + i));
            all.add("" + (char) ('1' + i));
        }
        for (int square = 0; square < 64; square++) {
            all.add(name(square));
        }
        return all;
    }

    static String name(int square) {
        return "" + (char) ('a' + square % 8) + (char) ('1' + square / 8);
    }

    /** A position: the letters on the squares, or a dot, and whether white is to move. */
    static final class Place {
        final char[] men = new char[64];
        boolean white = true;

        static Place bare() {
            Place p = new Place();
            Arrays.fill(p.men, '.');
            p.men[0] = 'K';
            p.men[63] = 'k';
            return p;
        }

        Place after(int move) {
            Place p = new Place();
            System.arraycopy(men, 0, p.men, 0, 64);
            char man = men[move / 64];
            p.men[move / 64] = '.';
            p.men[move % 64] = man == 'P' && move % 64 >= 56 ? 'Q' : man == 'p' && move % 64 < 8 ? 'q' : man;
            p.white = !white;
            return p;
        }

        /** As text 0 says it. */
        String text() {
            StringBuilder said = new StringBuilder();
            for (int row = 7; row >= 0; row--) {
                int empty = 0;
                for (int column = 0; column < 8; column++) {
                    char man = men[row * 8 + column];
                    if (man != '.' && empty > 0) {
                        said.append(empty);
                        empty = 0;
                    }
                    if (man == '.') {
                        empty++;
                    } else {
                        said.append(man);
                    }
                }
                said.append(empty > 0 ? "" + empty : "").append(row > 0 ? "/" : " ");
            }
            return said.append(white ? 'w' : 'b').toString();
        }

        boolean ofWhite(int square) {
            return Character.isUpperCase(men[square]);
        }

        boolean ofBlack(int square) {
            return Character.isLowerCase(men[square]);
        }

        boolean clearBetween(int from, int to) {
            int dc = Integer.signum(to % 8 - from % 8);
            int dr = Integer.signum(to / 8 - from / 8);
            for (int at = from + dc + 8 * dr; at != to; at += dc + 8 * dr) {
                if (men[at] != '.') {
                    return false;
                }
            }
            return true;
        }

        /** Whether the man on a square may go to another, his king aside. */
        boolean goes(int from, int to) {
            if (men[from] == '.' || from == to || ofWhite(from) && ofWhite(to) || ofBlack(from) && ofBlack(to)) {
                return false;
            }
            int columns = Math.abs(from % 8 - to % 8);
            int rows = Math.abs(from / 8 - to / 8);
            switch (Character.toLowerCase(men[from])) {
                case 'n': return columns * rows == 2;
                case 'k': return columns <= 1 && rows <= 1;
                case 'r': return columns * rows == 0 && clearBetween(from, to);
                case 'b': return columns == rows && clearBetween(from, to);
                case 'q': return (columns * rows == 0 || columns == rows) && clearBetween(from, to);
                default: return pawnGoes(from, to, columns);
            }
        }

        private boolean pawnGoes(int from, int to, int columns) {
            int up = ofWhite(from) ? to / 8 - from / 8 : from / 8 - to / 8;
            int start = ofWhite(from) ? 1 : 6;
            if (columns == 1) {
                return up == 1 && men[to] != '.';
            }
            if (columns != 0 || men[to] != '.') {
                return false;
            }
            return up == 1 || up == 2 && from / 8 == start && men[(from + to) / 2] == '.';
        }

        boolean attacked(boolean whiteKing) {
            int king = new String(men).indexOf(whiteKing ? 'K' : 'k');
            if (king < 0) {
                return false;
            }
            for (int from = 0; from < 64; from++) {
                if ((whiteKing ? ofBlack(from) : ofWhite(from)) && goes(from, king)) {
                    return true;
                }
            }
            return false;
        }

        List<Integer> moves() {
            List<Integer> all = new ArrayList<>();
            for (int from = 0; from < 64; from++) {
                if (!(white ? ofWhite(from) : ofBlack(from))) {
                    continue;
                }
                for (int to = 0; to < 64; to++) {
                    if (goes(from, to) && !after(from * 64 + to).attacked(white)) {
                        all.add(from * 64 + to);
                    }
                }
            }
            return all;
        }

        int kind(int move) {
            return "PNBRQK".indexOf(Character.toUpperCase(men[move / 64]));
        }

        /** All that may be said of a move. */
        Set<String> sayingsOf(int move) {
            String man = "" + Character.toUpperCase(men[move / 64]);
            String from = name(move / 64);
            String to = name(move % 64);
            Set<String> all = new HashSet<>();
            for (String ahead : new String[] {"", man}) {
                all.add(ahead + to.charAt(0));
                all.add(ahead + to.charAt(1));
                all.add(ahead + to);
                all.add(ahead + from.charAt(0) + to);
                all.add(ahead + from.charAt(1) + to);
                all.add(ahead + from + to);
            }
            return all;
        }

        List<Integer> fitting(String saying) {
            List<Integer> found = new ArrayList<>();
            for (int move : moves()) {
                if (sayingsOf(move).contains(saying)) {
                    found.add(move);
                }
            }
            return found;
        }

        List<String> shortest(List<Integer> moves) {
            List<Set<String>> all = new ArrayList<>();
            for (int move : moves) {
                all.add(sayingsOf(move));
            }
            List<String> found = new ArrayList<>();
            for (int i = 0; i < moves.size(); i++) {
                List<String> own = new ArrayList<>(all.get(i));
                own.sort(Comparator.comparing(String::length).thenComparing(Comparator.naturalOrder()));
                for (String saying : own) {
                    if (meansOnly(saying, all)) {
                        found.add(saying);
                        break;
                    }
                }
            }
            return found;
        }

        private static boolean meansOnly(String saying, List<Set<String>> all) {
            int means = 0;
            for (Set<String> one : all) {
                means += one.contains(saying) ? 1 : 0;
            }
            return means == 1;
        }
    }

    int type(int text, int b) {
        if (text < 0 || text > 2 || b < 0 || b > 255) {
            return -2;
        }
        if (texts[text].length() == ROOM[text]) {
            return -4;
        }
        texts[text] += (char) b;
        if (text == 0) {
            home();
        }
        return texts[text].length();
    }

    int wipe(int text) {
        if (text < 0 || text > 2) {
            return -2;
        }
        int had = texts[text].length();
        texts[text] = "";
        if (text == 0) {
            home();
        }
        return had;
    }

    int fault(int text) {
        if (text < 0 || text > 2) {
            return -2;
        }
        String t = texts[text];
        if (text == 0 ? boardSound(t) : text == 1 ? SAYINGS.contains(t) : gameSound(t)) {
            return -1;
        }
        int far = 0;
        while (far < t.length() && goesOn(text, t.substring(0, far + 1))) {
            far++;
        }
        return far;
    }

    private static boolean goesOn(int text, String t) {
        return text == 0 ? boardGoesOn(t) : text == 1 ? BEGINNINGS.contains(t) : gameGoesOn(t);
    }

    /** The rows with a dot for each empty square. */
    private static String spread(String t) {
        StringBuilder all = new StringBuilder();
        for (char c : t.toCharArray()) {
            all.append(c >= '1' && c <= '8' ? ".".repeat(c - '0') : "" + c);
        }
        return all.toString();
    }

    private static boolean boardGoesOn(String t) {
        String whole = "[.PNBRQKpnbrqk]{8}";
        String rows = spread(t).split(" ", -1)[0];
        if (rows.replaceAll("[^K]", "").length() > 1 || rows.replaceAll("[^k]", "").length() > 1
                || t.indexOf('.') >= 0) {
            return false;
        }
        String[] each = rows.split("/", -1);
        for (int i = 0; i < each.length - 1; i++) {
            if (!each[i].matches(whole)) {
                return false;
            }
        }
        if (each.length > 8 || !each[each.length - 1].matches("[.PNBRQKpnbrqk]{0,8}")) {
            return false;
        }
        int blank = t.indexOf(' ');
        return blank < 0
            || each.length == 8 && each[7].matches(whole) && t.substring(blank).matches(" [wb]?");
    }

    private static boolean boardSound(String t) {
        return boardGoesOn(t) && t.matches(".* [wb]") && t.indexOf('K') >= 0 && t.indexOf('k') >= 0;
    }

    private static boolean gameSound(String t) {
        String[] parts = t.split(";", -1);
        return t.isEmpty() || parts.length <= 12 && SAYINGS.containsAll(Arrays.asList(parts));
    }

    private static boolean gameGoesOn(String t) {
        String[] parts = t.split(";", -1);
        String last = parts[parts.length - 1];
        return SAYINGS.containsAll(Arrays.asList(parts).subList(0, parts.length - 1))
            && (parts.length <= 12 && BEGINNINGS.contains(last) || parts.length == 13 && last.isEmpty());
    }

    int square(int square) {
        return square < 0 || square > 63 ? -2 : place.men[square] == '.' ? 0 : place.men[square];
    }

    int side() {
        return place.white ? 0 : 1;
    }

    private static int pick(List<Integer> all, int i) {
        return i < -1 ? -2 : i == -1 ? all.size() : i < all.size() ? all.get(i) : -1;
    }

    int moves(int i) {
        return pick(place.moves(), i);
    }

    int lawful(int move) {
        return move < 0 || move > 4095 ? -2 : place.moves().contains(move) ? 1 : 0;
    }

    int state() {
        boolean none = place.moves().isEmpty();
        return place.attacked(place.white) ? (none ? 2 : 1) : none ? 3 : 0;
    }

    int play(int move) {
        int may = lawful(move);
        if (may != 1) {
            return may == 0 ? -3 : may;
        }
        place = place.after(move);
        return ++played;
    }

    int read(int s) {
        if (s < 0 || s > 3) {
            return -2;
        }
        if (sheets[s] == null) {
            return found(1);
        }
        int done = 0;
        for (int item : sheets[s]) {
            if (play(item) < 0) {
                break;
            }
            done++;
        }
        return done;
    }

    int home() {
        int had = played;
        played = 0;
        place = Place.bare();
        if (boardSound(texts[0])) {
            String[] rows = spread(texts[0]).split("[/ ]");
            for (int square = 0; square < 64; square++) {
                place.men[square] = rows[7 - square / 8].charAt(square % 8);
            }
            place.white = texts[0].endsWith("w");
        }
        return had;
    }

    int shortest(int move, int i) {
        if (move < 0 || move > 4095 || i < -1) {
            return -2;
        }
        List<Integer> moves = place.moves();
        if (!moves.contains(move)) {
            return -3;
        }
        String said = place.shortest(moves).get(moves.indexOf(move));
        return i == -1 ? said.length() : i < said.length() ? said.charAt(i) : -1;
    }

    int all() {
        int signs = 0;
        for (String said : place.shortest(place.moves())) {
            signs += said.length();
        }
        return signs;
    }

    int means(int i) {
        return pick(SAYINGS.contains(texts[1]) ? place.fitting(texts[1]) : List.of(), i);
    }

    int could(int i) {
        List<Integer> moves = place.moves();
        List<String> said = place.shortest(moves);
        List<Integer> found = new ArrayList<>();
        for (int m = 0; m < moves.size(); m++) {
            if (said.get(m).length() == texts[1].length() && unlike(said.get(m), texts[1]) == 1) {
                found.add(moves.get(m));
            }
        }
        return pick(found, i);
    }

    private static int unlike(String one, String other) {
        int found = 0;
        for (int i = 0; i < one.length(); i++) {
            found += one.charAt(i) == other.charAt(i) ? 0 : 1;
        }
        return found;
    }

    int weight(int man, int v) {
        if (man < 0 || man > 5 || v < 0 || v > 9) {
            return -2;
        }
        int was = weights[man];
        weights[man] = v;
        return was;
    }

    int table(int k) {
        if (k < 2 || k > 26) {
            return -2;
        }
        List<Integer> all = new ArrayList<>();
        for (int move : place.moves()) {
            all.add(weights[place.kind(move)]);
        }
        return leastTable(all, k);
    }

    static int leastTable(List<Integer> all, int k) {
        if (all.size() < 2) {
            return 0;
        }
        PriorityQueue<Integer> heap = new PriorityQueue<>(all);
        while ((heap.size() - 1) % (k - 1) != 0) {
            heap.add(0);
        }
        int least = 0;
        while (heap.size() > 1) {
            int sum = 0;
            for (int i = 0; i < k; i++) {
                sum += heap.poll();
            }
            heap.add(sum);
            least += sum;
        }
        return least;
    }

    private static int answerIn(Place behind) {
        List<Integer> moves = behind.moves();
        List<String> said = behind.shortest(moves);
        int best = -1;
        for (int i = 0; i < moves.size(); i++) {
            if (best < 0 || said.get(i).length() < said.get(best).length()) {
                best = i;
            }
        }
        return best < 0 ? -1 : moves.get(best);
    }

    int answer(int move, int i) {
        if (move < 0 || move > 4095 || i < 0) {
            return -2;
        }
        if (lawful(move) == 0) {
            return -3;
        }
        Place behind = place.after(move);
        List<Integer> replies = behind.moves();
        return i < replies.size() ? answerIn(behind.after(replies.get(i))) : -2;
    }

    /** Above and below, or nothing where there is no answer. */
    private BigInteger[] gains(Place behind, List<Integer> replies, int i, int fee) {
        Place last = behind.after(replies.get(i));
        int answer = answerIn(last);
        if (answer < 0) {
            return null;
        }
        List<Integer> moves = last.moves();
        int own = last.shortest(moves).get(moves.indexOf(answer)).length();
        int cost = behind.shortest(replies).get(i).length() + own;
        int sum = 0;
        for (int reply : replies) {
            sum += weights[behind.kind(reply)];
        }
        int chance = sum == 0 ? 0 : weights[behind.kind(replies.get(i))];
        int below = sum == 0 ? 1 : sum;
        return new BigInteger[] {
            BigInteger.valueOf((long) (fee + own) * chance - (long) cost * below), BigInteger.valueOf(below)};
    }

    long gain(int move, int i, int fee, int what) {
        if (move < 0 || move > 4095 || i < 0 || fee < 0 || fee > 99 || what < 0 || what > 1) {
            return Long.MIN_VALUE + 2;
        }
        if (lawful(move) == 0) {
            return Long.MIN_VALUE + 3;
        }
        Place behind = place.after(move);
        List<Integer> replies = behind.moves();
        if (i >= replies.size()) {
            return Long.MIN_VALUE + 2;
        }
        BigInteger[] gain = gains(behind, replies, i, fee);
        if (gain == null) {
            return Long.MIN_VALUE + 3;
        }
        return gain[what].divide(gain[0].gcd(gain[1])).longValue();
    }

    int ahead(int move, int k, int fee, int i) {
        if (move < 0 || move > 4095 || k < 0 || k > 9 || fee < 0 || fee > 99 || i < -1) {
            return -2;
        }
        if (lawful(move) == 0) {
            return -3;
        }
        Place behind = place.after(move);
        List<Integer> replies = behind.moves();
        List<BigInteger> above = new ArrayList<>();
        List<Integer> good = new ArrayList<>();
        for (int reply = 0; reply < replies.size(); reply++) {
            BigInteger[] gain = gains(behind, replies, reply, fee);
            above.add(gain == null ? BigInteger.ZERO : gain[0]);
            if (above.get(reply).signum() > 0) {
                good.add(reply);
            }
        }
        good.sort((one, other) -> above.get(other).compareTo(above.get(one)));
        List<Integer> best = new ArrayList<>();
        for (int reply : good.subList(0, Math.min(k, good.size()))) {
            best.add(replies.get(reply));
        }
        return pick(best, i);
    }

    private List<String> parts() {
        return texts[2].isEmpty() || fault(2) != -1 ? List.of() : Arrays.asList(texts[2].split(";"));
    }

    private List<Integer> playOut() {
        List<Integer> done = new ArrayList<>();
        Place at = place;
        for (String part : parts()) {
            List<Integer> fit = at.fitting(part);
            if (fit.size() != 1) {
                break;
            }
            done.add(fit.get(0));
            at = at.after(fit.get(0));
        }
        return done;
    }

    private int signs(int count) {
        return String.join("", parts().subList(0, count)).length();
    }

    int played(int what) {
        int done = playOut().size();
        switch (what) {
            case 0: return done < parts().size() ? done : -1;
            case 1: return done;
            case 2: return signs(done);
            default: return -2;
        }
    }

    int move(int i) {
        return i < 0 ? -2 : pick(playOut(), i);
    }

    int purse(int v) {
        if (v < 0 || v > 99) {
            return -2;
        }
        int done = playOut().size();
        for (int part = 0; part < done; part++) {
            if (signs(part + 1) > v) {
                return part;
            }
        }
        return -1;
    }

    /** All readings, or nothing where they are too many to be told. */
    private List<List<Integer>> allReadings() {
        if (parts().size() > 3) {
            return null;
        }
        List<List<Integer>> ways = new ArrayList<>();
        ways.add(List.of());
        for (String part : parts()) {
            List<List<Integer>> longer = new ArrayList<>();
            for (List<Integer> way : ways) {
                Place at = place;
                for (int move : way) {
                    at = at.after(move);
                }
                List<Integer> fit = at.fitting(part);
                if (fit.size() > 40) {
                    return null;
                }
                for (int move : fit) {
                    List<Integer> next = new ArrayList<>(way);
                    next.add(move);
                    longer.add(next);
                }
            }
            ways = longer;
        }
        return ways;
    }

    int readings() {
        List<List<Integer>> ways = allReadings();
        return ways == null ? -4 : ways.size();
    }

    int reading(int part, int what) {
        if (part < 0 || part > 2 || what < 0 || what > 1) {
            return -2;
        }
        List<List<Integer>> ways = allReadings();
        if (ways == null) {
            return -4;
        }
        boolean told = !ways.isEmpty() && part < parts().size();
        if (what == 0) {
            return told ? ways.get(0).get(part) : -1;
        }
        Set<Integer> unlike = new TreeSet<>();
        for (List<Integer> way : ways) {
            if (told) {
                unlike.add(way.get(part));
            }
        }
        return unlike.size();
    }

    private int found(int number) {
        latest = number;
        return -10 - number;
    }

    private static int trim(int form, int v) {
        return form == 0 ? (v << 24) >> 24 : form == 1 ? (v << 16) >> 16 : v;
    }

    int sheet(int s, int form, int n) {
        if (s < 0 || s > 3 || form < 0 || form > 2 || n > 60) {
            return -2;
        }
        if (n < 0) {
            return found(5);
        }
        sheets[s] = new int[n];
        forms[s] = form;
        return n;
    }

    int lose(int s) {
        if (s < 0 || s > 3) {
            return -2;
        }
        if (sheets[s] == null) {
            return found(1);
        }
        int had = sheets[s].length;
        sheets[s] = null;
        return had;
    }

    private int check(int s, int form, int i) {
        if (s < 0 || s > 3 || form < 0 || form > 2) {
            return -2;
        }
        if (sheets[s] == null) {
            return found(1);
        }
        if (forms[s] != form) {
            return found(3);
        }
        return i < 0 || i >= sheets[s].length ? found(2) : 1;
    }

    int lay(int s, int form, int i, int v) {
        int checked = check(s, form, i);
        if (checked == 1) {
            sheets[s][i] = trim(form, v);
        }
        return checked;
    }

    int get(int s, int form, int i) {
        return check(s, form, i) == 1 ? sheets[s][i] : Integer.MIN_VALUE;
    }

    int copy(int s, int i, int t, int j, int n) {
        if (s < 0 || s > 3 || t < 0 || t > 3) {
            return -2;
        }
        if (sheets[s] == null || sheets[t] == null) {
            return found(1);
        }
        if (forms[s] != forms[t]) {
            return found(4);
        }
        if (i < 0 || j < 0 || n < 0 || (long) i + n > sheets[s].length || (long) j + n > sheets[t].length) {
            return found(2);
        }
        int[] were = sheets[s].clone();
        for (int at = 0; at < n; at++) {
            sheets[t][j + at] = were[i + at];
        }
        return 1;
    }

    int write(int s) {
        if (s < 0 || s > 3) {
            return -2;
        }
        if (sheets[s] == null) {
            return found(1);
        }
        int done = 0;
        for (int move : place.moves()) {
            if (done < sheets[s].length) {
                sheets[s][done++] = trim(forms[s], move);
            }
        }
        return done;
    }

    int count(int what) {
        int white = 0;
        int black = 0;
        for (int square = 0; square < 64; square++) {
            white += place.ofWhite(square) ? 1 : 0;
            black += place.ofBlack(square) ? 1 : 0;
        }
        int sum = 0;
        for (int move : place.moves()) {
            sum += weights[place.kind(move)];
        }
        int[] all = {white + black, white, texts[0].length(), texts[1].length(), texts[2].length(), played,
            parts().size(), sum, latest};
        return what < 0 || what >= all.length ? -2 : all[what];
    }

    long digest() {
        List<Long> told = new ArrayList<>();
        for (int what = 0; what < 8; what++) {
            told.add((long) count(what));
        }
        for (int text = 0; text < 3; text++) {
            told.add((long) fault(text));
        }
        for (int square = 0; square < 64; square++) {
            told.add((long) square(square));
        }
        for (int one : new int[] {side(), state(), moves(-1), all(), means(-1), means(0), could(-1), table(2),
            table(26)}) {
            told.add((long) one);
        }
        int first = moves(0);
        if (first >= 0) {
            for (int i = -1; i < shortest(first, -1); i++) {
                told.add((long) shortest(first, i));
            }
            told.add((long) ahead(first, 9, 50, -1));
        }
        for (int what = 0; what < 3; what++) {
            told.add((long) played(what));
        }
        told.add((long) purse(9));
        long h = 17;
        for (long one : told) {
            h = 31 * h + one;
        }
        return h;
    }
}
