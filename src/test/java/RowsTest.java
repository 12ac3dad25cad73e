/** Promises 1 to 5 and 32: a new object, ROWS, status(). */
public final class RowsTest {
    private static final int NULL = -1000011, PLACE = -1000012, KIND = -1000013, SIZE = -1000014, STORE = -1000015;
    private static final int BAD = -1000001, STATE = -1000002, MIN = Integer.MIN_VALUE, MAX = Integer.MAX_VALUE;

    public static void main(String[] args) {
        newObject();
        row();
        rowInPlace();
        set();
        copy();
        copyOverItself();
        copyRefused();
        drop();
        statusOfRows();
        statusOfOthers();
        Check.end("RowsTest");
    }

    /** An object whose ITEMS 0 to 2 can be seen: one plain DISC on PEG 0. */
    private static PegDiscs seeing() {
        return Check.on("t3,3;p0;");
    }

    /** An ITEM as LEAST tells it of the one DISC: 0 to 2; -1 if it is no PEG. */
    private static int item(PegDiscs x, int row, int i) {
        int many = x.least(row, i, -1);
        return many == 0 ? 0 : many == 1 ? x.least(row, i, 0) : -1;
    }

    private static void dueItems(PegDiscs x, String what, int row, int... items) {
        for (int i = 0; i < items.length; i++) {
            Check.due(what + ", item " + i, item(x, row, i), items[i]);
        }
        Check.due(what + ", no more", x.set(row, items.length, 0), PLACE);
    }

    private static void newObject() {
        PegDiscs x = new PegDiscs();
        for (int what = 0; what < 8; what++) {
            Check.due("1: count(" + what + ")", x.count(what), 0);
        }
        Check.due("1: fault", x.fault(), 0);
        Check.due("1: status", x.status(), 0);
        Check.due("1: trace", x.trace(0), -1000000);
        Check.due("1: can", x.can(), STATE);
        Check.due("1: undo", x.undo(), STATE);
        Check.due("1: restore 0", x.restore(0), STATE);
        Check.due("1: restore 1", x.restore(1), STATE);
        for (int r = 0; r < 8; r++) {
            Check.due("1: ROW " + r + " is missing", x.drop(r), NULL);
        }
        PegDiscs other = new PegDiscs();
        other.row(0, 0, 1);
        Check.due("1: objects share nothing", x.count(0), 0);
    }

    private static void row() {
        PegDiscs x = new PegDiscs();
        Check.due("2: no items", x.row(0, 0, 0), 0);
        Check.due("2: most items", x.row(7, 2, 40), 40);
        Check.due("2: shorts", x.row(3, 1, 5), 5);
        Check.due("2: three are there", x.count(0), 3);
        Check.due("2: row -1", x.row(-1, 0, 1), BAD);
        Check.due("2: row 8", x.row(8, 0, 1), BAD);
        Check.due("2: row MIN", x.row(MIN, 0, 1), BAD);
        Check.due("2: lane -1", x.row(0, -1, 1), BAD);
        Check.due("2: lane 3", x.row(0, 3, 1), BAD);
        Check.due("2: n 41", x.row(0, 0, 41), BAD);
        Check.due("2: n MAX", x.row(0, 0, MAX), BAD);
        Check.due("2: n -1", x.row(1, 0, -1), SIZE);
        Check.due("2: n MIN", x.row(1, 0, MIN), SIZE);
        Check.due("2: BAD lane ahead of SIZE", x.row(1, 3, -1), BAD);
        Check.due("2: BAD row ahead of SIZE", x.row(8, 0, -1), BAD);
        Check.due("2: ROW 1 is missing yet", x.drop(1), NULL);
        Check.due("2: ROW 7 has 40", x.drop(7), 40);
        Check.due("2: ROW 0 has none", x.drop(0), 0);
    }

    private static void rowInPlace() {
        PegDiscs x = seeing();
        Check.tell(x, 0, 2, 1, 2);
        Check.due("2: refused", x.row(0, 0, -1), SIZE);
        dueItems(x, "2: SIZE leaves it", 0, 2, 1, 2);
        Check.due("2: refused", x.row(0, 0, 41), BAD);
        dueItems(x, "2: BAD leaves it", 0, 2, 1, 2);
        Check.due("2: anew", x.row(0, 0, 2), 2);
        dueItems(x, "2: 0 at first", 0, 0, 0);
        Check.due("2: longer", x.row(0, 0, 4), 4);
        dueItems(x, "2: 0 at first, again", 0, 0, 0, 0, 0);
        Check.due("2: the LANE is that of bytes", x.set(0, 0, 255), -1);
        Check.due("2: still one", x.count(0), 1);
    }

    private static void set() {
        PegDiscs x = seeing();
        x.row(0, 0, 3);
        x.row(1, 1, 3);
        x.row(2, 2, 40);
        int[][] bytes = {{0, 0}, {127, 127}, {128, -128}, {200, -56}, {255, -1}, {256, 0}, {-129, 127}, {MIN, 0}, {MAX, -1}};
        for (int[] b : bytes) {
            Check.due("3: byte " + b[0], x.set(0, 0, b[0]), b[1]);
        }
        int[][] shorts = {{200, 200}, {32767, 32767}, {32768, -32768}, {65535, -1}, {70000, 4464}, {MIN, 0}, {MAX, -1}};
        for (int[] s : shorts) {
            Check.due("3: short " + s[0], x.set(1, 2, s[0]), s[1]);
        }
        for (int v : new int[] {0, 70000, MIN, MAX, -5}) {
            Check.due("3: int " + v, x.set(2, 39, v), v);
        }
        x.set(0, 0, 1);
        x.set(0, 1, 256 + 2);
        x.set(0, 2, 5);
        dueItems(x, "3: it becomes so", 0, 1, 2, -1);
        Check.due("3: row -1", x.set(-1, 0, 1), BAD);
        Check.due("3: row 8", x.set(8, 0, 1), BAD);
        Check.due("3: missing", x.set(3, 0, 1), NULL);
        Check.due("3: missing ahead of place", x.set(3, -1, 1), NULL);
        for (int i : new int[] {-1, 3, 40, MIN, MAX}) {
            Check.due("3: place " + i, x.set(0, i, 0), PLACE);
        }
        Check.due("3: place 40 of 40", x.set(2, 40, 0), PLACE);
        x.row(4, 0, 0);
        Check.due("3: place 0 of none", x.set(4, 0, 0), PLACE);
        dueItems(x, "3: all stays", 0, 1, 2, -1);
    }

    private static void copy() {
        PegDiscs x = seeing();
        Check.tell(x, 0, 1, 2, 1, 2);
        x.row(1, 2, 5);
        Check.due("4: two", x.copy(0, 1, 1, 2, 2), 2);
        dueItems(x, "4: two came", 1, 0, 0, 2, 1, 0);
        dueItems(x, "4: those stay", 0, 1, 2, 1, 2);
        Check.due("4: all", x.copy(0, 0, 1, 1, 4), 4);
        dueItems(x, "4: all came", 1, 0, 1, 2, 1, 2);
        Check.due("4: none", x.copy(0, 0, 1, 0, 0), 0);
        Check.due("4: none behind the ends", x.copy(0, 4, 1, 5, 0), 0);
        dueItems(x, "4: none came", 1, 0, 1, 2, 1, 2);
        x.row(2, 0, 2);
        x.row(3, 0, 2);
        x.set(2, 1, 2);
        Check.due("4: bytes", x.copy(2, 1, 3, 0, 1), 1);
        dueItems(x, "4: a byte came", 3, 2, 0);
        Check.due("4: what came is a byte", x.set(3, 0, 130), -126);
    }

    private static void copyOverItself() {
        PegDiscs x = seeing();
        Check.tell(x, 0, 1, 2, 0, 0, 2);
        Check.due("4: upwards", x.copy(0, 0, 0, 1, 4), 4);
        dueItems(x, "4: as they were ahead", 0, 1, 1, 2, 0, 0);
        Check.tell(x, 0, 1, 2, 0, 0, 2);
        Check.due("4: downwards", x.copy(0, 1, 0, 0, 4), 4);
        dueItems(x, "4: as they were ahead", 0, 2, 0, 0, 2, 2);
    }

    private static void copyRefused() {
        PegDiscs x = seeing();
        Check.tell(x, 0, 1, 2, 1);
        x.row(1, 2, 5);
        x.row(2, 0, 5);
        Check.due("4: a is none", x.copy(-1, 0, 0, 0, 0), BAD);
        Check.due("4: a is none", x.copy(8, 0, 0, 0, 0), BAD);
        Check.due("4: b is none", x.copy(0, 0, 8, 0, 0), BAD);
        Check.due("4: BAD b ahead of NULL a", x.copy(5, 0, -1, 0, 0), BAD);
        Check.due("4: a is missing", x.copy(5, 0, 0, 0, 1), NULL);
        Check.due("4: b is missing", x.copy(0, 0, 5, 0, 1), NULL);
        Check.due("4: NULL ahead of PLACE", x.copy(5, -1, 0, -1, -1), NULL);
        Check.due("4: two LANES", x.copy(0, 0, 2, 0, 1), STORE);
        Check.due("4: two LANES, none", x.copy(2, 0, 0, 0, 0), STORE);
        Check.due("4: STORE ahead of PLACE", x.copy(0, -1, 2, 0, 1), STORE);
        int[][] places = {{-1, 0, 1}, {0, -1, 1}, {0, 0, -1}, {0, 0, 4}, {3, 0, 1}, {4, 0, 0}, {0, 6, 0}, {0, 3, 3},
            {MAX, 0, 1}, {1, 0, MAX}, {0, MAX, 1}, {MAX, MAX, MAX}, {0, 0, MIN}, {MIN, 0, 0}, {0, MIN, 0}, {3, 5, MAX}};
        for (int[] p : places) {
            Check.due("4: " + p[0] + ", " + p[1] + ", " + p[2], x.copy(0, p[0], 1, p[1], p[2]), PLACE);
        }
        dueItems(x, "4: all stays", 0, 1, 2, 1);
        dueItems(x, "4: all stays", 1, 0, 0, 0, 0, 0);
    }

    private static void drop() {
        PegDiscs x = new PegDiscs();
        x.row(0, 0, 7);
        x.row(1, 1, 0);
        Check.due("5: seven", x.drop(0), 7);
        Check.due("5: none", x.drop(1), 0);
        Check.due("5: both are missing", x.count(0), 0);
        Check.due("5: again", x.drop(0), NULL);
        Check.due("5: set", x.set(0, 0, 1), NULL);
        Check.due("5: row -1", x.drop(-1), BAD);
        Check.due("5: row 8", x.drop(8), BAD);
    }

    private static void statusOfRows() {
        PegDiscs x = new PegDiscs();
        Check.due("32: there was none", x.status(), 0);
        x.row(0, 0, -1);
        Check.due("32: SIZE", x.status(), 4);
        Check.due("32: it stays", x.status(), 4);
        x.row(0, 0, 41);
        Check.due("32: BAD is not looked at", x.status(), 4);
        x.row(0, 0, 4);
        Check.due("32: it had none", x.status(), 0);
        x.set(0, 4, 1);
        Check.due("32: PLACE", x.status(), 2);
        x.set(8, 0, 1);
        Check.due("32: BAD set", x.status(), 2);
        x.set(0, 0, 1);
        Check.due("32: set", x.status(), 0);
        x.copy(0, 0, 1, 0, 1);
        Check.due("32: NULL", x.status(), 1);
        x.row(1, 1, 4);
        x.copy(0, 0, 1, 0, 1);
        Check.due("32: STORE", x.status(), 5);
        x.copy(0, 0, 9, 0, 1);
        Check.due("32: BAD copy", x.status(), 5);
        x.copy(0, 0, 0, 1, 1);
        Check.due("32: copy", x.status(), 0);
        x.drop(5);
        Check.due("32: NULL of drop", x.status(), 1);
        x.drop(9);
        Check.due("32: BAD drop", x.status(), 1);
        x.drop(1);
        Check.due("32: drop", x.status(), 0);
    }

    private static void statusOfOthers() {
        PegDiscs x = new PegDiscs();
        x.drop(0);
        x.least(0, 0, -1);
        x.ways(0, 0, 0);
        x.judge(0, 0, 1);
        Check.due("32: STATE is not looked at", x.status(), 1);
        Check.feed(x, "t3,3;p0;g1;");
        x.board();
        x.move(0, 2);
        x.put(0, 1);
        x.high(2);
        x.undo();
        x.can();
        x.tower(0, -1);
        x.world(0);
        x.ring();
        x.chance(0, 0, 1, 0);
        x.drawn(1, 1, 0);
        x.image(0);
        x.restore(0);
        x.kind(0);
        x.ask(0, 0);
        x.trace(0);
        x.count(0);
        x.peg(0, 0);
        x.disc(0, 0);
        Check.due("32: calls without a ROW", x.status(), 1);
        x.as(0, 1);
        Check.due("32: as", x.status(), 0);
        Check.due("32: no such one", x.as(0, 4), KIND);
        Check.due("32: KIND", x.status(), 3);
        x.as(0, 6);
        Check.due("32: BAD as", x.status(), 3);
        Check.tell(x, 0, 0, 11);
        dueStatus(x, "least", x.least(0, 0, -1), x.least(0, 1, -1), x.least(1, 0, -1), x.least(0, 0, -2));
        Check.due("32: NONE of least is no FINDING", x.least(0, 0, -1), -1000000);
        Check.due("32: least", x.status(), 0);
        dueStatus(x, "ways", x.ways(0, 0, 0), x.ways(0, 1, 0), x.ways(1, 0, 0), x.ways(0, 0, 13));
        x.ways(0, 0, 0);
        Check.due("32: ways", x.status(), 0);
        dueStatus(x, "judge", x.judge(0, 0, 1), x.judge(0, 1, 2), x.judge(1, 0, 1), x.judge(0, 0, 17));
        x.judge(0, 0, 1);
        Check.due("32: judge", x.status(), 0);
        dueStatus(x, "fits", x.fits(0, 0, 0, 1, 0), x.fits(0, 0, 1, 2, 0), x.fits(0, 1, 0, 1, 0), x.fits(9, 0, 0, 1, 0));
        x.fits(0, 0, 0, 1, 0);
        Check.due("32: fits", x.status(), 0);
    }

    /** Of calls made in this order: one that is well, PLACE, NULL, BAD: status() is that of NULL yet. */
    private static void dueStatus(PegDiscs x, String name, long well, long place, long missing, long bad) {
        Check.holds(name + " is well", well > -1000010);
        Check.due(name + " PLACE", place, PLACE);
        Check.due(name + " NULL", missing, NULL);
        Check.due(name + " BAD", bad, BAD);
        Check.due("32: " + name + " NULL, then BAD", x.status(), 1);
    }
}
