import java.math.BigInteger;
import java.util.ArrayList;
import java.util.Arrays;
import java.util.HashMap;
import java.util.HashSet;
import java.util.List;
import java.util.Map;
import java.util.Set;

/**
 * The document once more, written for the tests alone: no thought of room or speed, other ways of
 * holding and finding things than the class has, so that a slip in one is not a slip in both.
 */
final class Plain {
    static final int NONE = -1000000, BAD = -1000001, STATE = -1000002, FULL = -1000003;

    /** A board that is never changed: each ACT makes another. */
    record Table(int pegs, int high, int moves, String sorts, List<Integer> on) {
        int discs() {
            return sorts.length();
        }

        List<Integer> lying(int peg) {
            List<Integer> all = new ArrayList<>();
            for (int d = 0; d < discs(); d++) {
                if (on.get(d) == peg) {
                    all.add(d);
                }
            }
            return all;
        }

        boolean may(int from, int to) {
            if (from < 0 || to < 0 || from >= pegs || to >= pegs || from == to || lying(from).isEmpty()) {
                return false;
            }
            int disc = lying(from).get(0);
            List<Integer> there = lying(to);
            boolean free = there.isEmpty() || there.get(0) > disc;
            return switch (sorts.charAt(disc)) {
                case 'p' -> free;
                case 's' -> free && Math.abs(from - to) == 1;
                case 'h' -> free && !there.contains(disc + 1);
                case 'g' -> free && there.size() < high;
                default -> free && there.size() < high && moves % 2 == 0;
            };
        }

        /** All that may be, as 10 times from which, and to which, in this order. */
        List<Integer> all() {
            List<Integer> found = new ArrayList<>();
            for (int told = 0; told < 40; told++) {
                if (may(told / 10, told % 10)) {
                    found.add(told);
                }
            }
            return found;
        }

        Table after(int told) {
            return new Table(pegs, high, moves + 1, sorts, with(lying(told / 10).get(0), told % 10));
        }

        Table laid(int disc, int peg) {
            return new Table(pegs, high, moves, sorts, with(disc, peg));
        }

        Table sorted(int disc, char sort) {
            StringBuilder s = new StringBuilder(sorts);
            s.setCharAt(disc, sort);
            return new Table(pegs, high, moves, s.toString(), on);
        }

        Table asHigh(int v) {
            return new Table(pegs, v, moves, sorts, on);
        }

        private List<Integer> with(int disc, int peg) {
            List<Integer> other = new ArrayList<>(on);
            other.set(disc, peg);
            return other;
        }

        int code() {
            int code = 0;
            for (int d = discs() - 1; d >= 0; d--) {
                code = code * 10 + on.get(d);
            }
            return code;
        }
    }

    private final int[][] rows = new int[8][];
    private final int[] lanes = new int[8];
    private String tape = "";
    private int fault = 0;
    private Table table = null;
    private final ArrayList<Table> before = new ArrayList<>();
    private final Table[] images = new Table[2];
    private final ArrayList<Integer> trace = new ArrayList<>();
    private int status = 0;

    private static boolean in(int v, int least, int most) {
        return v >= least && v <= most;
    }

    private boolean isPeg(int peg) {
        return table != null && in(peg, 0, table.pegs() - 1);
    }

    private boolean isDisc(int disc) {
        return table != null && in(disc, 0, table.discs() - 1);
    }

    private int found(int number) {
        status = number;
        return -1000010 - number;
    }

    private long fine(long answer) {
        status = 0;
        return answer;
    }

    private int span(int row, long i, long n) {
        if (rows[row] == null) {
            return 1;
        }
        return i < 0 || n < 0 || i + n > rows[row].length ? 2 : 0;
    }

    int row(int row, int lane, int n) {
        if (!in(row, 0, 7) || !in(lane, 0, 2) || n > 40) {
            return BAD;
        }
        if (n < 0) {
            return found(4);
        }
        rows[row] = new int[n];
        lanes[row] = lane;
        return (int) fine(n);
    }

    int set(int row, int i, int v) {
        if (!in(row, 0, 7)) {
            return BAD;
        }
        if (span(row, i, 1) != 0) {
            return found(span(row, i, 1));
        }
        int bits = lanes[row] == 0 ? 24 : lanes[row] == 1 ? 16 : 0;
        rows[row][i] = v << bits >> bits;
        return (int) fine(rows[row][i]);
    }

    int copy(int a, int i, int b, int j, int n) {
        if (!in(a, 0, 7) || !in(b, 0, 7)) {
            return BAD;
        }
        if (rows[a] == null || rows[b] == null) {
            return found(1);
        }
        if (lanes[a] != lanes[b]) {
            return found(5);
        }
        if (span(a, i, n) != 0 || span(b, j, n) != 0) {
            return found(2);
        }
        int[] was = rows[a].clone();
        for (int k = 0; k < n; k++) {
            rows[b][j + k] = was[i + k];
        }
        return (int) fine(n);
    }

    int drop(int row) {
        if (!in(row, 0, 7)) {
            return BAD;
        }
        if (rows[row] == null) {
            return found(1);
        }
        int had = rows[row].length;
        rows[row] = null;
        return (int) fine(had);
    }

    int feed(int letter) {
        if (!in(letter, 0, 255)) {
            return BAD;
        }
        if (tape.length() == 60) {
            return FULL;
        }
        tape += (char) letter;
        return tape.length();
    }

    /** Cuts the tape into TOKENS first (each its text and its place), then walks over them. */
    int board() {
        List<String> tokens = new ArrayList<>();
        List<Integer> places = new ArrayList<>();
        for (int i = 0; i < tape.length();) {
            int end = i + 1;
            while (Character.digit(tape.charAt(i), 10) >= 0 && tape.charAt(i) < 128
                    && end < tape.length() && "0123456789".indexOf(tape.charAt(end)) >= 0) {
                end++;
            }
            tokens.add(tape.substring(i, end));
            places.add(i);
            i = end;
        }
        tokens.add("");
        places.add(tape.length());
        tape = "";
        int pegs = 0;
        int high = 0;
        StringBuilder sorts = new StringBuilder();
        List<Integer> on = new ArrayList<>();
        for (int k = 0; k < tokens.size(); k++) {
            String token = tokens.get(k);
            int place = k < 5 ? k : 5 + (k - 5) % 3;
            if (place == 5 && token.isEmpty() && k > 5) {
                table = new Table(pegs, high, 0, sorts.toString(), on);
                before.clear();
                return on.size();
            }
            String form = new String[] {"t", "[0-9]{1,2}", ",", "[0-9]{1,2}", ";", "[pshgf]", "[0-9]{1,2}", ";"}[place];
            if (!token.matches(form)) {
                return faulty(1, places.get(k));
            }
            int value = place == 1 || place == 3 || place == 6 ? Integer.parseInt(token) : 0;
            if (place == 1 && !in(value, 3, 4) || place == 3 && !in(value, 1, 6) || place == 6 && value >= pegs) {
                return faulty(2, places.get(k));
            }
            if (place == 5 && sorts.length() == 6) {
                return faulty(3, places.get(k));
            }
            switch (place) {
                case 1 -> pegs = value;
                case 3 -> high = value;
                case 5 -> sorts.append(token);
                case 6 -> on.add(value);
                default -> { }
            }
        }
        throw new IllegalStateException("a tape has an end");
    }

    private int faulty(int number, int place) {
        fault = number;
        return -1000100 - place;
    }

    int fault() {
        return fault;
    }

    private void act(Table then) {
        before.add(table);
        if (before.size() > 24) {
            before.remove(0);
        }
        table = then;
    }

    int move(int from, int to) {
        if (!isPeg(from) || !isPeg(to) || from == to) {
            return BAD;
        }
        if (!table.may(from, to)) {
            return STATE;
        }
        if (table.moves() == 9999) {
            return FULL;
        }
        int disc = table.lying(from).get(0);
        act(table.after(10 * from + to));
        return disc;
    }

    int put(int disc, int peg) {
        if (!isDisc(disc) || !isPeg(peg)) {
            return BAD;
        }
        int was = table.on().get(disc);
        if (was == peg) {
            return STATE;
        }
        act(table.laid(disc, peg));
        return was;
    }

    int high(int v) {
        if (table == null) {
            return STATE;
        }
        if (!in(v, 1, 6)) {
            return BAD;
        }
        int was = table.high();
        act(table.asHigh(v));
        return was;
    }

    int undo() {
        if (before.isEmpty()) {
            return STATE;
        }
        table = before.remove(before.size() - 1);
        return before.size();
    }

    int disc(int disc, int what) {
        if (!isDisc(disc) || !in(what, 0, 2)) {
            return BAD;
        }
        int peg = table.on().get(disc);
        boolean top = table.lying(peg).get(0) == disc;
        if (what == 0) {
            return peg;
        }
        if (what == 1) {
            return top ? 1 : 0;
        }
        int bits = 0;
        for (int to = 0; to < 4; to++) {
            bits |= top && table.may(peg, to) ? 1 << to : 0;
        }
        return bits;
    }

    int peg(int peg, int what) {
        if (!isPeg(peg) || !in(what, 0, 2)) {
            return BAD;
        }
        List<Integer> there = table.lying(peg);
        if (what == 0) {
            return there.size();
        }
        if (what == 1) {
            return there.stream().mapToInt(d -> 1 << d).sum();
        }
        return there.isEmpty() ? NONE : there.get(0);
    }

    int can() {
        return table == null ? STATE : table.all().stream().mapToInt(m -> 1 << 4 * (m / 10) + m % 10).sum();
    }

    /** The PEGS that ITEMS tell; null: one of them is none. */
    private List<Integer> told(int row, int i) {
        List<Integer> on = new ArrayList<>();
        for (int d = 0; d < table.discs(); d++) {
            if (!isPeg(rows[row][i + d])) {
                return null;
            }
            on.add(rows[row][i + d]);
        }
        return on;
    }

    /** By arrangement and by whether MOVES is odd: the first row of fewest MOVES that leads there. */
    private Map<String, List<Integer>> firstRows() {
        Map<String, List<Integer>> rowOf = new HashMap<>();
        List<Table> layer = List.of(table);
        rowOf.put(key(table), List.of());
        while (!layer.isEmpty()) {
            Map<String, Table> next = new HashMap<>();
            Map<String, List<Integer>> best = new HashMap<>();
            for (Table t : layer) {
                for (int m : t.all()) {
                    Table then = t.after(m);
                    if (rowOf.containsKey(key(then))) {
                        continue;
                    }
                    List<Integer> row = new ArrayList<>(rowOf.get(key(t)));
                    row.add(m);
                    List<Integer> other = best.get(key(then));
                    if (other == null || Arrays.compare(ints(row), ints(other)) < 0) {
                        best.put(key(then), row);
                        next.put(key(then), then);
                    }
                }
            }
            rowOf.putAll(best);
            layer = new ArrayList<>(next.values());
        }
        return rowOf;
    }

    private static int[] ints(List<Integer> list) {
        return list.stream().mapToInt(Integer::intValue).toArray();
    }

    private static String key(Table t) {
        return t.on() + (t.moves() % 2 == 0 ? "even" : "odd");
    }

    private static List<Integer> shorter(Map<String, List<Integer>> rowOf, List<Integer> on) {
        List<Integer> even = rowOf.get(on + "even");
        List<Integer> odd = rowOf.get(on + "odd");
        return even == null ? odd : odd == null ? even : even.size() < odd.size() ? even : odd;
    }

    private int fewest(List<Integer> on, int k) {
        List<Integer> row = shorter(firstRows(), on);
        if (row == null) {
            return NONE;
        }
        return k == -1 ? row.size() : k < row.size() ? row.get(k) : NONE;
    }

    int least(int row, int i, int k) {
        if (table == null) {
            return STATE;
        }
        if (!in(row, 0, 7) || k < -1) {
            return BAD;
        }
        if (span(row, i, table.discs()) != 0) {
            return found(span(row, i, table.discs()));
        }
        List<Integer> on = told(row, i);
        return (int) fine(on == null ? NONE : fewest(on, k));
    }

    int tower(int peg, int k) {
        if (table == null) {
            return STATE;
        }
        if (!isPeg(peg) || k < -1) {
            return BAD;
        }
        return fewest(java.util.Collections.nCopies(table.discs(), peg), k);
    }

    int world(int what) {
        if (table == null) {
            return STATE;
        }
        if (!in(what, 0, 3)) {
            return BAD;
        }
        Map<String, List<Integer>> rowOf = firstRows();
        Set<List<Integer>> seen = new HashSet<>();
        int far = -1;
        int code = 0;
        int dead = 0;
        for (List<Integer> row : rowOf.values()) {
            Table t = table;
            for (int m : row) {
                t = t.after(m);
            }
            if (shorter(rowOf, t.on()) != row) {
                continue;
            }
            seen.add(t.on());
            dead += t.all().isEmpty() ? 1 : 0;
            if (row.size() > far || row.size() == far && t.code() < code) {
                far = row.size();
                code = t.code();
            }
        }
        return new int[] {seen.size(), far, code, dead}[what];
    }

    /** Layer by layer all that can be, the states that came before not left out. */
    int ring() {
        if (table == null) {
            return STATE;
        }
        Map<String, Table> layer = Map.of(key(table), table);
        int most = 2 * (1 << 2 * table.discs()) + 2;
        for (int n = 1; n <= most; n++) {
            Map<String, Table> next = new HashMap<>();
            for (Table t : layer.values()) {
                for (int m : t.all()) {
                    next.put(key(t.after(m)), t.after(m));
                }
            }
            for (Table t : next.values()) {
                if (t.on().equals(table.on())) {
                    return n;
                }
            }
            layer = next;
        }
        return NONE;
    }

    long ways(int row, int i, int n) {
        if (table == null) {
            return STATE;
        }
        if (!in(row, 0, 7) || !in(n, 0, 12)) {
            return BAD;
        }
        if (span(row, i, table.discs()) != 0) {
            return found(span(row, i, table.discs()));
        }
        List<Integer> on = told(row, i);
        return fine(on == null ? 0 : waysFrom(table, on, n, new HashMap<>()));
    }

    private long waysFrom(Table t, List<Integer> on, int n, Map<String, Long> known) {
        if (n == 0) {
            return t.on().equals(on) ? 1 : 0;
        }
        String key = key(t) + n;
        if (!known.containsKey(key)) {
            long sum = 0;
            for (int m : t.all()) {
                sum += waysFrom(t.after(m), on, n - 1, known);
            }
            known.put(key, sum);
        }
        return known.get(key);
    }

    private int judged(Table from, int row, int i, int n) {
        Table t = from;
        for (int k = 0; k < n; k++) {
            int item = rows[row][i + k];
            if (!t.all().contains(item)) {
                return k;
            }
            t = t.after(item);
        }
        return NONE;
    }

    int judge(int row, int i, int n) {
        if (table == null) {
            return STATE;
        }
        if (!in(row, 0, 7) || !in(n, 1, 16)) {
            return BAD;
        }
        if (span(row, i, n) != 0) {
            return found(span(row, i, n));
        }
        return (int) fine(judged(table, row, i, n));
    }

    int fits(int disc, int row, int i, int n, int what) {
        if (!isDisc(disc) || !in(row, 0, 7) || !in(n, 1, 16) || !in(what, 0, 2)) {
            return BAD;
        }
        if (span(row, i, n) != 0) {
            return found(span(row, i, n));
        }
        int bits = 0;
        for (int k = 1; what == 0 && k <= 5; k++) {
            bits |= judged(table.sorted(disc, " pshgf".charAt(k)), row, i, n) == NONE ? 1 << k : 0;
        }
        for (int p = 0; what == 1 && p < table.pegs(); p++) {
            bits |= judged(table.laid(disc, p), row, i, n) == NONE ? 1 << p : 0;
        }
        for (int h = 1; what == 2 && h <= 6; h++) {
            bits |= judged(table.asHigh(h), row, i, n) == NONE ? 1 << h : 0;
        }
        return (int) fine(bits);
    }

    long chance(int disc, int peg, int n, int what) {
        if (!isDisc(disc) || !isPeg(peg) || !in(n, 0, 7) || !in(what, 0, 1)) {
            return BAD;
        }
        return odds(table, disc, peg, n, new HashMap<>())[what].longValueExact();
    }

    private static BigInteger[] odds(Table t, int disc, int peg, int n, Map<String, BigInteger[]> known) {
        if (n == 0 || t.all().isEmpty()) {
            return new BigInteger[] {t.on().get(disc) == peg ? BigInteger.ONE : BigInteger.ZERO, BigInteger.ONE};
        }
        String key = key(t) + n;
        if (!known.containsKey(key)) {
            BigInteger above = BigInteger.ZERO;
            BigInteger below = BigInteger.ONE;
            for (int m : t.all()) {
                BigInteger[] part = odds(t.after(m), disc, peg, n - 1, known);
                above = above.multiply(part[1]).add(part[0].multiply(below));
                below = below.multiply(part[1]);
            }
            below = below.multiply(BigInteger.valueOf(t.all().size()));
            BigInteger common = above.gcd(below);
            known.put(key, new BigInteger[] {above.divide(common), below.divide(common)});
        }
        return known.get(key);
    }

    int drawn(int n, int seed, int what) {
        if (table == null) {
            return STATE;
        }
        if (!in(n, 0, 60) || !in(seed, 1, 999999) || !in(what, 0, 1)) {
            return BAD;
        }
        BigInteger x = BigInteger.valueOf(seed);
        Table t = table;
        int often = 0;
        for (int k = 0; k < n; k++) {
            x = x.multiply(BigInteger.valueOf(16807)).mod(BigInteger.valueOf(2147483647));
            List<Integer> all = t.all();
            if (!all.isEmpty()) {
                Table then = t.after(all.get(x.mod(BigInteger.valueOf(all.size())).intValue()));
                often += then.on().get(0).equals(t.on().get(0)) ? 0 : 1;
                t = then;
            }
        }
        return what == 0 ? t.code() : often;
    }

    int image(int k) {
        if (!in(k, 0, 1)) {
            return BAD;
        }
        if (table == null) {
            return STATE;
        }
        images[k] = table;
        return 1;
    }

    int restore(int k) {
        if (!in(k, 0, 1)) {
            return BAD;
        }
        if (images[k] == null) {
            return STATE;
        }
        table = images[k];
        before.clear();
        return 1;
    }

    int kind(int disc) {
        return isDisc(disc) ? " pshgf".indexOf(table.sorts().charAt(disc)) : BAD;
    }

    int as(int disc, int kind) {
        if (!isDisc(disc) || !in(kind, 0, 5)) {
            return BAD;
        }
        Body b = bodyOf(disc);
        boolean is = switch (kind) {
            case 1 -> b instanceof PlainBody;
            case 2 -> b instanceof ShortBody;
            case 3 -> b instanceof HeavyBody;
            case 4 -> b instanceof GlassBody;
            case 5 -> b instanceof FrailBody;
            default -> true;
        };
        return is ? (int) fine(disc) : found(3);
    }

    int ask(int disc, int what) {
        if (!isDisc(disc) || !in(what, 0, 1)) {
            return BAD;
        }
        trace.clear();
        Body b = bodyOf(disc);
        int answer = what == 0 ? b.size() : b.mark();
        while (trace.size() > 16) {
            trace.remove(16);
        }
        return answer;
    }

    int trace(int i) {
        return in(i, 0, trace.size() - 1) ? trace.get(i) : NONE;
    }

    int count(int what) {
        Table t = table == null ? new Table(0, 0, 0, "", List.of()) : table;
        return switch (what) {
            case 0 -> (int) Arrays.stream(rows).filter(r -> r != null).count();
            case 1 -> t.pegs();
            case 2 -> t.discs();
            case 3 -> t.moves();
            case 4 -> t.high();
            case 5 -> before.size();
            case 6 -> tape.length();
            case 7 -> t.code();
            default -> BAD;
        };
    }

    int status() {
        return status;
    }

    private Body bodyOf(int disc) {
        Body b = switch (table.sorts().charAt(disc)) {
            case 'p' -> new PlainBody();
            case 's' -> new ShortBody();
            case 'h' -> new HeavyBody();
            case 'g' -> new GlassBody();
            default -> new FrailBody();
        };
        b.number = disc;
        b.peg = table.on().get(disc);
        b.beside = table.lying(b.peg).size();
        b.trace = trace;
        return b;
    }

    /** The KINDS as Java's own classes: which BODY begins is found by Java's own rules. */
    private static class Body {
        int number;
        int peg;
        int beside;
        List<Integer> trace;

        int size() {
            trace.add(10);
            return number;
        }

        int mark() {
            trace.add(20);
            return peg;
        }
    }

    private static class PlainBody extends Body {
        @Override int size() {
            trace.add(11);
            int lent = super.size();
            return lent + mark();
        }

        @Override int mark() {
            trace.add(21);
            return super.mark() + beside;
        }
    }

    private static final class ShortBody extends PlainBody {
        @Override int size() {
            trace.add(12);
            return 0 - super.size();
        }

        @Override int mark() {
            trace.add(24);
            return super.mark() * 2;
        }
    }

    private static final class HeavyBody extends PlainBody {
        @Override int mark() {
            trace.add(22);
            return super.mark() - 1000;
        }
    }

    private static class GlassBody extends Body {
        @Override int size() {
            trace.add(13);
            return super.size() - 100;
        }

        @Override int mark() {
            trace.add(23);
            int lent = super.mark();
            return lent - size();
        }
    }

    private static final class FrailBody extends GlassBody {
        @Override int size() {
            trace.add(14);
            return super.size() * 2;
        }
    }
}
