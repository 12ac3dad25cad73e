import java.util.Arrays;

/** Discs on pegs: what each call answers stands in the document, DOC.md. */
public final class PegDiscs {
    public static final int NONE = -1000000, BAD = -1000001, STATE = -1000002, FULL = -1000003;

    private static final int NULL = 1, PLACE = 2, KIND = 3, SIZE = 4, STORE = 5;
    private static final int BEFORE_FINDINGS = -1000010, BEFORE_FAULTS = -1000100;
    private static final int BYTES = 0, SHORTS = 1, INTS = 2;
    private static final int PLAIN = 1, SHORT = 2, HEAVY = 3, GLASS = 4, FRAIL = 5;
    private static final int ROWS = 8, MOST_ITEMS = 40, MOST_BYTES = 60, MOST_DISCS = 6, MOST_HIGH = 6;
    private static final int MOST_ACTS = 24, IMAGES = 2, MOST_MOVES = 9999, MOST_TRACED = 16;
    private static final int MOST_WAYS = 12, MOST_JUDGED = 16, MOST_CHANCE = 7;
    private static final int MOST_EVENING = 60, MOST_SEED = 999999;
    /** Arrangements are held with two bits a disc; a state is one of them with ODD if MOVES is odd. */
    private static final int ARRANGEMENTS = 4096, ODD = 4096, STATES = 8192;
    /** Numbers of moves, 4 times from which and to which, are below this. */
    private static final int MOVE_NUMBERS = 16;
    /** By KIND: bits of the KINDS that such a one is. */
    private static final int[] IS = {1, 3, 7, 11, 17, 49};
    /** By KIND: the BODY that begins when SIZE, or MARK, is asked. */
    private static final int[] SIZE_BODY = {10, 11, 12, 11, 13, 14};
    private static final int[] MARK_BODY = {20, 21, 24, 22, 23, 23};

    private final Row[] rows = new Row[ROWS];
    private final Tape tape = new Tape();
    private final Board board = new Board();
    /** What is supposed, not what is: foretelling plays on this one. */
    private final Board trial = new Board();
    private final Acts acts = new Acts();
    private final Board[] images = new Board[IMAGES];
    private final Asker asker = new Asker();
    /** Made when first used: they are large, and many an object never foretells. */
    private Net net;
    private Search search;
    private Layers layers;
    private int latestFault;
    private int finding;

    public PegDiscs() {
        for (int i = 0; i < ROWS; i++) {
            rows[i] = new Row();
        }
        for (int i = 0; i < IMAGES; i++) {
            images[i] = new Board();
        }
    }

    // ---- rows

    public int row(int row, int lane, int n) {
        Row r = rowAt(row);
        if (r == null || lane < BYTES || lane > INTS || n > MOST_ITEMS) {
            return BAD;
        }
        if (n < 0) {
            return found(SIZE);
        }
        r.begin(lane, n);
        return well(n);
    }

    public int set(int row, int i, int v) {
        Row r = rowAt(row);
        if (r == null) {
            return BAD;
        }
        int flaw = r.flaw(i, 1);
        return flaw != 0 ? found(flaw) : well(r.store(i, v));
    }

    public int copy(int a, int i, int b, int j, int n) {
        Row source = rowAt(a);
        Row target = rowAt(b);
        if (source == null || target == null) {
            return BAD;
        }
        if (source.isMissing() || target.isMissing()) {
            return found(NULL);
        }
        if (source.lane != target.lane) {
            return found(STORE);
        }
        if (source.flaw(i, n) != 0 || target.flaw(j, n) != 0) {
            return found(PLACE);
        }
        System.arraycopy(source.items, i, target.items, j, n);
        return well(n);
    }

    public int drop(int row) {
        Row r = rowAt(row);
        if (r == null) {
            return BAD;
        }
        if (r.isMissing()) {
            return found(NULL);
        }
        return well(r.end());
    }

    // ---- boards, acts

    public int feed(int letter) {
        if (letter < 0 || letter > 255) {
            return BAD;
        }
        return tape.take(letter) ? tape.length : FULL;
    }

    public int board() {
        // Read beside the board, so that a fault leaves the board as it is.
        boolean good = tape.readInto(trial);
        tape.length = 0;
        if (!good) {
            latestFault = tape.faultNumber;
            return BEFORE_FAULTS - tape.at;
        }
        board.take(trial);
        acts.forget();
        return board.discs;
    }

    public int fault() {
        return latestFault;
    }

    public int move(int from, int to) {
        if (!board.hasPeg(from) || !board.hasPeg(to) || from == to) {
            return BAD;
        }
        int number = 4 * from + to;
        if (!board.allows(number)) {
            return STATE;
        }
        if (board.moves >= MOST_MOVES) {
            return FULL;
        }
        int moved = board.topOf(from);
        acts.keep(board);
        board.carryOut(number);
        return moved;
    }

    public int put(int disc, int peg) {
        if (!board.hasDisc(disc) || !board.hasPeg(peg)) {
            return BAD;
        }
        int was = board.pegOf(disc);
        if (was == peg) {
            return STATE;
        }
        acts.keep(board);
        board.layBy(disc, peg);
        return was;
    }

    public int high(int v) {
        if (board.isNone()) {
            return STATE;
        }
        if (v < 1 || v > MOST_HIGH) {
            return BAD;
        }
        int was = board.high;
        acts.keep(board);
        board.high = v;
        return was;
    }

    public int undo() {
        return acts.takeBack(board) ? acts.kept : STATE;
    }

    public int disc(int disc, int what) {
        if (!board.hasDisc(disc) || what < 0 || what > 2) {
            return BAD;
        }
        int on = board.pegOf(disc);
        boolean top = board.topOf(on) == disc;
        switch (what) {
            case 0:
                return on;
            case 1:
                return top ? 1 : 0;
            default:
                return top ? board.movesNow() >> 4 * on & 15 : 0;
        }
    }

    public int peg(int peg, int what) {
        if (!board.hasPeg(peg) || what < 0 || what > 2) {
            return BAD;
        }
        int there = board.lyingOn(peg);
        switch (what) {
            case 0:
                return Integer.bitCount(there);
            case 1:
                return there;
            default:
                return there == 0 ? NONE : board.topOf(peg);
        }
    }

    // ---- foretold

    public int can() {
        return board.isNone() ? STATE : board.movesNow();
    }

    public int least(int row, int i, int k) {
        if (board.isNone()) {
            return STATE;
        }
        Row r = rowAt(row);
        if (r == null || k < -1) {
            return BAD;
        }
        int flaw = r.flaw(i, board.discs);
        if (flaw != 0) {
            return found(flaw);
        }
        int told = board.arrangedBy(r, i);
        return well(told < 0 ? NONE : searched().fewest(told, k));
    }

    public int tower(int peg, int k) {
        if (board.isNone()) {
            return STATE;
        }
        if (!board.hasPeg(peg) || k < -1) {
            return BAD;
        }
        return searched().fewest(board.allOn(peg), k);
    }

    public int world(int what) {
        if (board.isNone()) {
            return STATE;
        }
        if (what < 0 || what > 3) {
            return BAD;
        }
        Search s = searched();
        switch (what) {
            case 0:
                return s.reached;
            case 1:
                return s.farSteps;
            case 2:
                return board.codeOf(s.farthest);
            default:
                return s.dead;
        }
    }

    public int ring() {
        return board.isNone() ? STATE : searched().back;
    }

    public long ways(int row, int i, int n) {
        if (board.isNone()) {
            return STATE;
        }
        Row r = rowAt(row);
        if (r == null || n < 0 || n > MOST_WAYS) {
            return BAD;
        }
        int flaw = r.flaw(i, board.discs);
        if (flaw != 0) {
            return found(flaw);
        }
        well(0);
        int told = board.arrangedBy(r, i);
        return told < 0 ? 0 : layered().rowsTo(told, n);
    }

    public int judge(int row, int i, int n) {
        if (board.isNone()) {
            return STATE;
        }
        Row r = rowAt(row);
        if (r == null || n < 1 || n > MOST_JUDGED) {
            return BAD;
        }
        int flaw = r.flaw(i, n);
        if (flaw != 0) {
            return found(flaw);
        }
        trial.take(board);
        return well(trial.firstWrong(r, i, n));
    }

    public int fits(int disc, int row, int i, int n, int what) {
        Row r = rowAt(row);
        if (!board.hasDisc(disc) || r == null || n < 1 || n > MOST_JUDGED || what < 0 || what > 2) {
            return BAD;
        }
        int flaw = r.flaw(i, n);
        if (flaw != 0) {
            return found(flaw);
        }
        int bits = 0;
        for (int supposed = 0; supposed <= MOST_HIGH; supposed++) {
            if (suppose(disc, supposed, what) && trial.firstWrong(r, i, n) == NONE) {
                bits |= 1 << supposed;
            }
        }
        return well(bits);
    }

    public long chance(int disc, int peg, int n, int what) {
        if (!board.hasDisc(disc) || !board.hasPeg(peg) || n < 0 || n > MOST_CHANCE || what < 0 || what > 1) {
            return BAD;
        }
        Layers l = layered();
        long above = l.partsOn(disc, peg, n);
        long below = l.partsOfAll(n);
        long common = commonOf(above, below);
        if (common == 0) {
            return 0;
        }
        return (what == 0 ? above : below) / common;
    }

    public int drawn(int n, int seed, int what) {
        if (board.isNone()) {
            return STATE;
        }
        if (n < 0 || n > MOST_EVENING || seed < 1 || seed > MOST_SEED || what < 0 || what > 1) {
            return BAD;
        }
        trial.take(board);
        int often = trial.spendEvening(n, seed);
        return what == 0 ? trial.codeOf(trial.arranged) : often;
    }

    public int image(int k) {
        if (k < 0 || k >= IMAGES) {
            return BAD;
        }
        if (board.isNone()) {
            return STATE;
        }
        images[k].take(board);
        return 1;
    }

    public int restore(int k) {
        if (k < 0 || k >= IMAGES) {
            return BAD;
        }
        if (images[k].isNone()) {
            return STATE;
        }
        board.take(images[k]);
        acts.forget();
        return 1;
    }

    // ---- asked

    public int kind(int disc) {
        return board.hasDisc(disc) ? board.kindOf(disc) : BAD;
    }

    public int as(int disc, int kind) {
        if (!board.hasDisc(disc) || kind < 0 || kind > FRAIL) {
            return BAD;
        }
        return (IS[board.kindOf(disc)] >> kind & 1) == 0 ? found(KIND) : well(disc);
    }

    public int ask(int disc, int what) {
        if (!board.hasDisc(disc) || what < 0 || what > 1) {
            return BAD;
        }
        return asker.answer(board, disc, what);
    }

    public int trace(int i) {
        return asker.tracedAt(i);
    }

    public int count(int what) {
        switch (what) {
            case 0:
                return rowsThere();
            case 1:
                return board.pegs;
            case 2:
                return board.discs;
            case 3:
                return board.moves;
            case 4:
                return board.high;
            case 5:
                return acts.kept;
            case 6:
                return tape.length;
            case 7:
                return board.codeOf(board.arranged);
            default:
                return BAD;
        }
    }

    public int status() {
        return finding;
    }

    // ---- what the calls share

    private Row rowAt(int row) {
        return row < 0 || row >= ROWS ? null : rows[row];
    }

    private int found(int number) {
        finding = number;
        return BEFORE_FINDINGS - number;
    }

    private int well(int answer) {
        finding = 0;
        return answer;
    }

    private int rowsThere() {
        int there = 0;
        for (int i = 0; i < ROWS; i++) {
            if (!rows[i].isMissing()) {
                there++;
            }
        }
        return there;
    }

    /** The trial becomes the board with one thing other than it is; false: there is no such thing. */
    private boolean suppose(int disc, int supposed, int what) {
        trial.take(board);
        switch (what) {
            case 0:
                trial.sortAs(disc, supposed);
                return supposed >= PLAIN && supposed <= FRAIL;
            case 1:
                trial.layBy(disc, supposed);
                return board.hasPeg(supposed);
            default:
                trial.high = supposed;
                return supposed >= 1;
        }
    }

    private Net netNow() {
        if (net == null) {
            net = new Net();
        }
        net.lookAt(board);
        return net;
    }

    private Search searched() {
        if (search == null) {
            search = new Search();
        }
        if (!search.of.hasFutureOf(board)) {
            search.begin(board);
            search.spread(netNow());
        }
        return search;
    }

    private Layers layered() {
        Net looked = netNow();
        if (layers == null) {
            layers = new Layers(looked);
        }
        layers.begin();
        return layers;
    }

    /** The greatest number that divides both; at most some ninety rounds for any two longs. */
    private static long commonOf(long a, long b) {
        long greater = a;
        long rest = b;
        for (int round = 0; round < 200 && rest != 0; round++) {
            long next = greater % rest;
            greater = rest;
            rest = next;
        }
        return greater;
    }

    private static final class Row {
        private static final int MISSING = -1;
        private int lane = MISSING;
        private int size;
        private final int[] items = new int[MOST_ITEMS];

        private boolean isMissing() {
            return lane == MISSING;
        }

        private void begin(int newLane, int n) {
            lane = newLane;
            size = n;
            Arrays.fill(items, 0);
        }

        private int end() {
            int had = size;
            lane = MISSING;
            size = 0;
            return had;
        }

        /** What is wrong with n ITEMS from i on: a FINDING's number, 0 if nothing is. */
        private int flaw(int i, int n) {
            if (isMissing()) {
                return NULL;
            }
            return i < 0 || n < 0 || i > size - n ? PLACE : 0;
        }

        private int store(int i, int v) {
            int kept = lane == BYTES ? (byte) v : lane == SHORTS ? (short) v : v;
            if (i >= 0 && i < size) {
                items[i] = kept;
            }
            return kept;
        }

        private int itemAt(int i) {
            return i < 0 || i >= size ? NONE : items[i];
        }
    }

    /** The bytes that are fed, and how a BOARD is read of them. */
    private static final class Tape {
        private static final int CANNOT_STAND = 1, NOT_AS_TOLD = 2, NO_ROOM = 3;
        private final int[] bytes = new int[MOST_BYTES];
        private int length;
        /** Where reading is; of a fault its place. */
        private int at;
        private int faultNumber;
        private int value;

        private boolean take(int letter) {
            if (length >= MOST_BYTES) {
                return false;
            }
            bytes[length] = letter;
            length++;
            return true;
        }

        private boolean readInto(Board read) {
            at = 0;
            read.clear();
            if (!readLaw(read)) {
                return false;
            }
            for (int n = 0; n <= MOST_DISCS; n++) {
                if (n > 0 && at >= length) {
                    return true;
                }
                if (!readDisc(read)) {
                    return false;
                }
            }
            return true;
        }

        private boolean readLaw(Board read) {
            if (!passes('t') || !readNumber(3, 4)) {
                return false;
            }
            read.pegs = value;
            if (!passes(',') || !readNumber(1, MOST_HIGH)) {
                return false;
            }
            read.high = value;
            return passes(';');
        }

        private boolean readDisc(Board read) {
            int sort = sortOf(byteAt(at));
            if (sort == 0) {
                return faulty(CANNOT_STAND);
            }
            if (read.discs >= MOST_DISCS) {
                return faulty(NO_ROOM);
            }
            at++;
            if (!readNumber(0, read.pegs - 1) || !passes(';')) {
                return false;
            }
            read.sortAs(read.discs, sort);
            read.layBy(read.discs, value);
            read.discs++;
            return true;
        }

        private boolean passes(int sign) {
            if (byteAt(at) != sign) {
                return faulty(CANNOT_STAND);
            }
            at++;
            return true;
        }

        private boolean readNumber(int least, int most) {
            int figures = 0;
            value = 0;
            while (figures < 3 && isFigure(byteAt(at + figures))) {
                value = 10 * value + byteAt(at + figures) - '0';
                figures++;
            }
            if (figures == 0 || figures == 3) {
                return faulty(CANNOT_STAND);
            }
            if (value < least || value > most) {
                return faulty(NOT_AS_TOLD);
            }
            at += figures;
            return true;
        }

        private boolean faulty(int number) {
            faultNumber = number;
            return false;
        }

        /** -1 behind the end, so that the end is no token. */
        private int byteAt(int i) {
            return i < 0 || i >= length ? -1 : bytes[i];
        }

        private static boolean isFigure(int letter) {
            return letter >= '0' && letter <= '9';
        }

        private static int sortOf(int letter) {
            switch (letter) {
                case 'p':
                    return PLAIN;
                case 's':
                    return SHORT;
                case 'h':
                    return HEAVY;
                case 'g':
                    return GLASS;
                case 'f':
                    return FRAIL;
                default:
                    return 0;
            }
        }
    }

    /** A BOARD in six numbers, so that keeping one and supposing another costs nothing; no PEGS: none. */
    private static final class Board {
        private int pegs;
        private int discs;
        private int high;
        private int moves;
        /** Three bits a DISC. */
        private int kinds;
        /** Two bits a DISC, its PEG: of two arrangements the one with the less number has the less CODE. */
        private int arranged;

        private void clear() {
            pegs = 0;
            discs = 0;
            high = 0;
            moves = 0;
            kinds = 0;
            arranged = 0;
        }

        private void take(Board other) {
            pegs = other.pegs;
            discs = other.discs;
            high = other.high;
            moves = other.moves;
            kinds = other.kinds;
            arranged = other.arranged;
        }

        private boolean isNone() {
            return pegs == 0;
        }

        private boolean hasPeg(int number) {
            return number >= 0 && number < pegs;
        }

        private boolean hasDisc(int number) {
            return number >= 0 && number < discs;
        }

        private int pegOf(int number) {
            return arranged >> 2 * number & 3;
        }

        private int kindOf(int number) {
            int k = kinds >> 3 * number & 7;
            return k > FRAIL ? 0 : k;
        }

        private void layBy(int number, int on) {
            arranged = arranged & ~(3 << 2 * number) | (on & 3) << 2 * number;
        }

        private void sortAs(int number, int sort) {
            kinds = kinds & ~(7 << 3 * number) | (sort & 7) << 3 * number;
        }

        /** Whether all MOVES that may be are the same for both, in each state. */
        private boolean hasLawOf(Board other) {
            return pegs == other.pegs && discs == other.discs && high == other.high && kinds == other.kinds;
        }

        /** Whether the same lies ahead of both. */
        private boolean hasFutureOf(Board other) {
            return hasLawOf(other) && arranged == other.arranged && (moves & 1) == (other.moves & 1);
        }

        private boolean hasFrail() {
            boolean has = false;
            for (int d = 0; d < discs; d++) {
                has = has || kindOf(d) == FRAIL;
            }
            return has;
        }

        /** How many numbers arrangements of these DISCS are among. */
        private int arrangements() {
            return 1 << 2 * discs;
        }

        private int allOn(int peg) {
            int all = 0;
            for (int d = 0; d < discs; d++) {
                all |= (peg & 3) << 2 * d;
            }
            return all;
        }

        /** The arrangement that ITEMS from i on tell; -1: one of them is no PEG. */
        private int arrangedBy(Row r, int i) {
            int told = 0;
            for (int d = 0; d < discs; d++) {
                int on = r.itemAt(i + d);
                if (!hasPeg(on)) {
                    return -1;
                }
                told |= on << 2 * d;
            }
            return told;
        }

        private int codeOf(int arrangement) {
            int code = 0;
            for (int d = discs - 1; d >= 0; d--) {
                code = 10 * code + (arrangement >> 2 * d & 3);
            }
            return code;
        }

        private int lyingOn(int peg) {
            return lyingIn(arranged) >> 6 * peg & 63;
        }

        private int topOf(int peg) {
            return leastOf(lyingOn(peg));
        }

        /** Six bits a PEG: the DISCS that lie there. */
        private int lyingIn(int arrangement) {
            int lying = 0;
            for (int d = 0; d < discs; d++) {
                lying |= 1 << 6 * (arrangement >> 2 * d & 3) + d;
            }
            return lying;
        }

        private int movesNow() {
            return movesFrom(arranged, (moves & 1) != 0);
        }

        private boolean allows(int number) {
            return (movesNow() >> number & 1) != 0;
        }

        /** The MOVES that may be, bits by their numbers. */
        private int movesFrom(int arrangement, boolean odd) {
            int lying = lyingIn(arrangement);
            int may = 0;
            for (int from = 0; from < pegs; from++) {
                int there = lying >> 6 * from & 63;
                for (int to = 0; to < pegs && there != 0; to++) {
                    if (to != from && mayGo(leastOf(there), from - to, lying >> 6 * to & 63, odd)) {
                        may |= 1 << 4 * from + to;
                    }
                }
            }
            return may;
        }

        /** Whether a DISC may go over to a PEG with these DISCS beneath. */
        private boolean mayGo(int number, int apart, int beneath, boolean odd) {
            if ((beneath & (1 << number) - 1) != 0) {
                return false;
            }
            switch (kindOf(number)) {
                case SHORT:
                    return apart == 1 || apart == -1;
                case HEAVY:
                    return (beneath >> number + 1 & 1) == 0;
                case GLASS:
                    return Integer.bitCount(beneath) < high;
                case FRAIL:
                    return Integer.bitCount(beneath) < high && !odd;
                default:
                    return true;
            }
        }

        /** The arrangement behind a MOVE that may be. */
        private int behind(int arrangement, int number) {
            int from = number >> 2 & 3;
            for (int d = 0; d < discs; d++) {
                if ((arrangement >> 2 * d & 3) == from) {
                    return arrangement & ~(3 << 2 * d) | (number & 3) << 2 * d;
                }
            }
            return arrangement;
        }

        private void carryOut(int number) {
            arranged = behind(arranged, number);
            moves++;
        }

        /** Carries out MOVES that ITEMS tell: the place of the first that may not be; NONE. */
        private int firstWrong(Row r, int i, int n) {
            for (int k = 0; k < n; k++) {
                int number = numberOf(r.itemAt(i + k));
                if (number < 0 || !allows(number)) {
                    return k;
                }
                carryOut(number);
            }
            return NONE;
        }

        private int numberOf(int told) {
            return told < 0 || !hasPeg(told / 10) || !hasPeg(told % 10) ? -1 : 4 * (told / 10) + told % 10;
        }

        /** Carries out n MOVES by draws: how often DISC 0 was moved. */
        private int spendEvening(int n, int seed) {
            long x = seed;
            int often = 0;
            for (int k = 0; k < n; k++) {
                x = x * 16807 % 2147483647;
                int may = movesNow();
                int many = Integer.bitCount(may);
                if (many != 0) {
                    int number = pick(may, (int) (x % many));
                    if (topOf(number >> 2) == 0) {
                        often++;
                    }
                    carryOut(number);
                }
            }
            return often;
        }

        /** That one of the MOVES of which as many are ahead as told. */
        private static int pick(int may, int ahead) {
            int left = may;
            for (int k = 0; k < ahead; k++) {
                left &= left - 1;
            }
            return leastOf(left);
        }

        /** The number of the lowest bit. */
        private static int leastOf(int bits) {
            return Integer.bitCount((bits & -bits) - 1);
        }
    }

    /** The BOARDS as they were ahead of each ACT that can be undone, in a ring of rooms. */
    private static final class Acts {
        private final Board[] before = new Board[MOST_ACTS];
        private int next;
        private int kept;

        private Acts() {
            for (int i = 0; i < MOST_ACTS; i++) {
                before[i] = new Board();
            }
        }

        private void keep(Board board) {
            before[next].take(board);
            next = next + 1 < MOST_ACTS ? next + 1 : 0;
            kept = kept < MOST_ACTS ? kept + 1 : MOST_ACTS;
        }

        private boolean takeBack(Board board) {
            if (kept == 0) {
                return false;
            }
            kept--;
            next = next > 0 ? next - 1 : MOST_ACTS - 1;
            board.take(before[next]);
            return true;
        }

        private void forget() {
            kept = 0;
        }
    }

    /** The states and the MOVES between them; what may be from a state is found once for each law. */
    private static final class Net {
        private static final int UNKNOWN = -1;
        private final Board law = new Board();
        private final int[] known = new int[STATES];
        /** ODD if it matters whether MOVES is odd, else 0: then only half of the states are used. */
        private int turning;

        private void lookAt(Board board) {
            if (!law.hasLawOf(board)) {
                Arrays.fill(known, UNKNOWN);
                turning = board.hasFrail() ? ODD : 0;
            }
            law.take(board);
        }

        private int start() {
            return law.arranged | ((law.moves & 1) != 0 ? turning : 0);
        }

        private int movesAt(int state) {
            int s = state & STATES - 1;
            if (known[s] == UNKNOWN) {
                known[s] = law.movesFrom(s & ARRANGEMENTS - 1, (s & ODD) != 0);
            }
            return known[s];
        }

        private int stateBehind(int state, int number) {
            return law.behind(state & ARRANGEMENTS - 1, number) | (state ^ ODD) & turning;
        }
    }

    /**
     * All that can be come to, in the order of fewest MOVES and then of the first rows of them:
     * taking states as they were found and MOVES by their numbers keeps that order.
     */
    private static final class Search {
        private static final int NOT_FOUND = -1;
        private final Board of = new Board();
        private final int[] queue = new int[STATES];
        /** By state: how many MOVES it takes; the latest of them and the state ahead of it. */
        private final int[] steps = new int[STATES];
        private final int[] lastMove = new int[STATES];
        private final int[] ahead = new int[STATES];
        private int queued;
        private int reached;
        private int farSteps;
        private int farthest;
        private int dead;
        private int back;

        private void begin(Board board) {
            of.take(board);
            Arrays.fill(steps, NOT_FOUND);
            queued = 0;
            reached = 0;
            farSteps = NOT_FOUND;
            farthest = 0;
            dead = 0;
            back = NONE;
        }

        private void spread(Net net) {
            int start = net.start() & STATES - 1;
            steps[start] = 0;
            queue[0] = start;
            queued = 1;
            for (int k = 0; k < STATES && k < queued; k++) {
                int state = queue[k] & STATES - 1;
                int may = net.movesAt(state);
                noteArrangement(state, may);
                for (int number = 0; number < MOVE_NUMBERS; number++) {
                    if ((may >> number & 1) != 0) {
                        comeTo(net.stateBehind(state, number) & STATES - 1, state, number);
                    }
                }
            }
        }

        private void noteArrangement(int state, int may) {
            int other = steps[state ^ ODD];
            if (other != NOT_FOUND && other < steps[state]) {
                return;
            }
            int arrangement = state & ARRANGEMENTS - 1;
            reached++;
            if (may == 0) {
                dead++;
            }
            if (steps[state] > farSteps || steps[state] == farSteps && arrangement < farthest) {
                farSteps = steps[state];
                farthest = arrangement;
            }
        }

        private void comeTo(int state, int from, int number) {
            if (back == NONE && (state & ARRANGEMENTS - 1) == of.arranged) {
                back = steps[from] + 1;
            }
            if (steps[state] == NOT_FOUND && queued < STATES) {
                steps[state] = steps[from] + 1;
                lastMove[state] = number;
                ahead[state] = from;
                queue[queued] = state;
                queued++;
            }
        }

        /** LEAST to an arrangement: how many (k = -1), the k-th; NONE. */
        private int fewest(int arrangement, int k) {
            int state = soonestOf(arrangement & ARRANGEMENTS - 1);
            int many = steps[state];
            if (many == NOT_FOUND || k >= many) {
                return NONE;
            }
            if (k < 0) {
                return many;
            }
            for (int n = many - 1; n > k; n--) {
                state = ahead[state];
            }
            int number = lastMove[state];
            return 10 * (number >> 2) + (number & 3);
        }

        private int soonestOf(int arrangement) {
            int even = steps[arrangement];
            int odd = steps[arrangement | ODD];
            boolean isOdd = odd != NOT_FOUND && (even == NOT_FOUND || odd < even);
            return isOdd ? arrangement | ODD : arrangement;
        }
    }

    /** Arrangements behind 0, 1, .. MOVES, each with a weight: rows that lead there, or parts of what is likely. */
    private static final class Layers {
        /** At most six MOVES may be at once, one between two PEGS: all these numbers divide 60. */
        private static final int PARTS = 60;
        private long[] weights = new long[ARRANGEMENTS];
        private long[] coming = new long[ARRANGEMENTS];
        private final Net net;
        private int odd;

        private Layers(Net looked) {
            net = looked;
        }

        private void begin() {
            int start = net.start();
            Arrays.fill(weights, 0);
            weights[start & ARRANGEMENTS - 1] = 1;
            odd = start & ODD;
        }

        private long rowsTo(int arrangement, int n) {
            for (int k = 0; k < n; k++) {
                goOn(false);
            }
            return weights[arrangement & ARRANGEMENTS - 1];
        }

        /** How many parts of partsOfAll have a DISC on a PEG behind n MOVES. */
        private long partsOn(int disc, int peg, int n) {
            long parts = 0;
            for (int k = 0; k < n; k++) {
                // Where no MOVE may be all stays for good, MOVES too: such weights leave the layers here.
                parts = PARTS * (parts + weightsOn(disc, peg, true));
                goOn(true);
            }
            return parts + weightsOn(disc, peg, false);
        }

        private long partsOfAll(int n) {
            long parts = 1;
            for (int k = 0; k < n; k++) {
                parts *= PARTS;
            }
            return parts;
        }

        private long weightsOn(int disc, int peg, boolean onlyStuck) {
            long sum = 0;
            int most = net.law.arrangements();
            for (int a = 0; a < ARRANGEMENTS && a < most; a++) {
                if (weights[a] != 0 && (a >> 2 * disc & 3) == peg && (!onlyStuck || net.movesAt(a | odd) == 0)) {
                    sum += weights[a];
                }
            }
            return sum;
        }

        /** One MOVE further; the weights are shared among the MOVES, or go whole to each. */
        private void goOn(boolean shared) {
            Arrays.fill(coming, 0);
            int most = net.law.arrangements();
            for (int a = 0; a < ARRANGEMENTS && a < most; a++) {
                int may = weights[a] == 0 ? 0 : net.movesAt(a | odd);
                int many = Integer.bitCount(may);
                if (many != 0) {
                    hand(a, may, shared ? weights[a] * (PARTS / many) : weights[a]);
                }
            }
            long[] done = weights;
            weights = coming;
            coming = done;
            odd = (odd ^ ODD) & net.turning;
        }

        private void hand(int arrangement, int may, long weight) {
            for (int number = 0; number < MOVE_NUMBERS; number++) {
                if ((may >> number & 1) != 0) {
                    coming[net.law.behind(arrangement, number) & ARRANGEMENTS - 1] += weight;
                }
            }
        }
    }

    /** Asks of a DISC, and THE TRACE of the latest ask. */
    private static final class Asker {
        /** No ask opens more BODIES within one another than this. */
        private static final int DEEPEST = 8;
        private final int[] traced = new int[MOST_TRACED];
        private int length;
        private int number;
        private int sort;
        private int on;
        private int beside;

        private int answer(Board board, int disc, int what) {
            length = 0;
            number = disc;
            sort = board.kindOf(disc);
            on = board.pegOf(disc);
            beside = Integer.bitCount(board.lyingOn(on));
            return give(what == 0 ? SIZE_BODY[sort] : MARK_BODY[sort], 0);
        }

        private int tracedAt(int i) {
            return i < 0 || i >= length ? NONE : traced[i];
        }

        private int give(int body, int depth) {
            if (depth > DEEPEST) {
                return 0;
            }
            leaveNumber(body);
            int within = depth + 1;
            switch (body) {
                case 10:
                    return number;
                case 11:
                    return give(10, within) + give(MARK_BODY[sort], within);
                case 12:
                    return -give(11, within);
                case 13:
                    return give(10, within) - 100;
                case 14:
                    return 2 * give(13, within);
                case 20:
                    return on;
                case 21:
                    return give(20, within) + beside;
                case 22:
                    return give(21, within) - 1000;
                case 23:
                    return give(20, within) - give(SIZE_BODY[sort], within);
                case 24:
                    return 2 * give(21, within);
                default:
                    return 0;
            }
        }

        private void leaveNumber(int body) {
            if (length < MOST_TRACED) {
                traced[length] = body;
                length++;
            }
        }
    }
}
