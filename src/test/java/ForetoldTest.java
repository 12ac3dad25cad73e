/** Promises 15 to 26: what is FORETOLD, books of MOVES, odds, evenings, IMAGES. */
public final class ForetoldTest {
    private static final int NONE = -1000000, BAD = -1000001, STATE = -1000002, NULL = -1000011, PLACE = -1000012;
    private static final int MIN = Integer.MIN_VALUE, MAX = Integer.MAX_VALUE;
    /** Three plain DISCS from PEG 0 to PEG 2. */
    private static final int[] HANOI = {2, 1, 21, 2, 10, 12, 2};

    public static void main(String[] args) {
        can();
        least();
        leastFirst();
        leastRefused();
        tower();
        towerFar();
        world();
        worldDead();
        ring();
        ways();
        waysRefused();
        judge();
        judgeRefused();
        fits();
        fitsRefused();
        chance();
        chanceStuck();
        chanceRefused();
        drawn();
        drawnRefused();
        image();
        restore();
        foretellingChangesNothing();
        foretoldAnew();
        Check.end("ForetoldTest");
    }

    private static void can() {
        Check.due("15: no BOARD", new PegDiscs().can(), STATE);
        Check.due("15: one DISC", Check.on("t3,3;p0;").can(), 6);
        Check.due("15: from the last PEG", Check.on("t4,3;p3;").can(), 7 << 12);
        Check.due("15: a short one", Check.on("t4,3;s1;").can(), 5 << 4);
        Check.due("15: three on top", Check.on("t3,3;p1;p2;p0;").can(), 5 << 4 | 1 << 8);
        PegDiscs f = Check.on("t3,3;f0;");
        Check.due("15: a frail one, even", f.can(), 6);
        f.move(0, 1);
        Check.due("15: a frail one, odd", f.can(), 0);
    }

    private static void least() {
        PegDiscs x = Check.on("t3,3;p0;p0;p0;");
        Check.tell(x, 1, 9, 2, 2, 2, 0, 0, 0);
        Check.due("16: how many", x.least(1, 1, -1), 7);
        for (int k = 0; k < 7; k++) {
            Check.due("16: the " + k + "th", x.least(1, 1, k), HANOI[k]);
        }
        Check.due("16: there are fewer", x.least(1, 1, 7), NONE);
        Check.due("16: far fewer", x.least(1, 1, MAX), NONE);
        Check.due("16: as they are", x.least(1, 4, -1), 0);
        Check.due("16: as they are, the first", x.least(1, 4, 0), NONE);
        Check.due("16: another", x.least(1, 2, -1), 3);
        Check.due("16: no PEG", x.least(1, 0, -1), NONE);
        Check.tell(x, 2, 0, 0, 3);
        Check.due("16: a PEG too many", x.least(2, 0, -1), NONE);
        Check.tell(x, 2, 0, 0, -1);
        Check.due("16: a PEG too few", x.least(2, 0, -1), NONE);
        for (int k = 0; k < 7; k++) {
            x.move(HANOI[k] / 10, HANOI[k] % 10);
            Check.due("16: fewer from now on", x.least(1, 1, -1), 6 - k);
        }
        PegDiscs h = Check.on("t3,3;h0;p1;");
        Check.tell(h, 0, 1, 1);
        Check.due("16: by none", h.least(0, 0, -1), NONE);
        Check.due("16: by none, the first", h.least(0, 0, 0), NONE);
    }

    private static void leastFirst() {
        PegDiscs x = Check.on("t4,3;p0;p1;");
        Check.tell(x, 0, 2, 3);
        Check.due("16: two", x.least(0, 0, -1), 2);
        Check.due("16: of two rows the first", x.least(0, 0, 0), 2);
        Check.due("16: its second", x.least(0, 0, 1), 13);
        PegDiscs s = Check.on("t4,3;p3;p0;");
        Check.tell(s, 0, 2, 2);
        Check.due("16: one way only", s.least(0, 0, -1), 2);
        Check.due("16: the greater one first", s.least(0, 0, 0), 2);
        Check.due("16: then the lesser one", s.least(0, 0, 1), 32);
        // The frail one may go each second time only: the plain one has to step aside and come back.
        PegDiscs f = Check.on("t3,3;f0;p1;");
        Check.tell(f, 0, 1, 2);
        dueRow(f, "16: frail, from even on", 2, 10, 21, 2);
        f.move(1, 2);
        dueRow(f, "16: frail, from odd on", 21, 2, 10, 21, 2);
    }

    private static void dueRow(PegDiscs x, String what, int... moves) {
        Check.due(what + ", how many", x.least(0, 0, -1), moves.length);
        for (int k = 0; k < moves.length; k++) {
            Check.due(what + ", the " + k + "th", x.least(0, 0, k), moves[k]);
        }
    }

    private static void leastRefused() {
        PegDiscs n = new PegDiscs();
        Check.due("16: no BOARD", n.least(0, 0, -1), STATE);
        Check.due("16: no BOARD ahead of BAD", n.least(8, 0, -2), STATE);
        PegDiscs x = Check.on("t3,3;p0;p0;p0;");
        x.row(0, 0, 4);
        Check.due("16: row -1", x.least(-1, 0, -1), BAD);
        Check.due("16: row 8", x.least(8, 0, -1), BAD);
        Check.due("16: k -2", x.least(0, 0, -2), BAD);
        Check.due("16: BAD ahead of NULL", x.least(1, 0, -2), BAD);
        Check.due("16: BAD ahead of PLACE", x.least(0, 9, MIN), BAD);
        Check.due("16: missing", x.least(1, -1, -1), NULL);
        Check.due("16: place 1", x.least(0, 1, -1), 0);
        for (int i : new int[] {-1, 2, 4, MIN, MAX, MAX - 1}) {
            Check.due("16: place " + i, x.least(0, i, -1), PLACE);
        }
        x.set(0, 0, 7);
        Check.due("16: PLACE ahead of NONE", x.least(0, 2, -1), PLACE);
    }

    private static void tower() {
        PegDiscs x = Check.on("t3,3;p0;p0;p0;");
        Check.due("17: there", x.tower(0, -1), 0);
        Check.due("17: there, the first", x.tower(0, 0), NONE);
        Check.due("17: how many", x.tower(2, -1), 7);
        for (int k = 0; k < 7; k++) {
            Check.due("17: the " + k + "th", x.tower(2, k), HANOI[k]);
        }
        Check.due("17: there are fewer", x.tower(2, 7), NONE);
        Check.due("17: peg -1", x.tower(-1, -1), BAD);
        Check.due("17: peg 3", x.tower(3, -1), BAD);
        Check.due("17: k -2", x.tower(0, -2), BAD);
        Check.due("17: no BOARD", new PegDiscs().tower(0, -1), STATE);
        Check.due("17: no BOARD ahead of BAD", new PegDiscs().tower(9, -2), STATE);
        Check.due("17: by none", Check.on("t3,1;g0;p1;").tower(0, -1), NONE);
        Check.due("17: glass on one", Check.on("t3,2;g0;p1;").tower(1, -1), 1);
        Check.due("17: glass on two", Check.on("t3,2;g0;p1;p1;").tower(1, -1), NONE);
    }

    private static void towerFar() {
        Check.due("17: six on three PEGS", Check.on("t3,6;p0;p0;p0;p0;p0;p0;").tower(2, -1), 63);
        Check.due("17: six on four PEGS", Check.on("t4,6;p0;p0;p0;p0;p0;p0;").tower(3, -1), 17);
        PegDiscs s = Check.on("t3,6;s0;s0;s0;s0;s0;s0;");
        Check.due("17: six short ones", s.tower(2, -1), 728);
        Check.due("17: the last", s.tower(2, 727), 12);
        Check.due("17: the first", s.tower(2, 0), 1);
        Check.due("17: to the middle", s.tower(1, -1), 364);
        Check.due("17: frail, every second", Check.on("t3,6;f0;").tower(1, -1), 1);
        PegDiscs f = Check.on("t3,6;f0;p0;");
        Check.due("17: frail over a plain one", f.tower(1, -1), 3);
    }

    private static void dueWorld(String text, int many, int far, int code, int dead) {
        PegDiscs x = Check.on(text);
        int[] due = {many, far, code, dead};
        for (int what = 0; what < 4; what++) {
            Check.due("18: world(" + what + ") of " + text, x.world(what), due[what]);
        }
    }

    private static void world() {
        dueWorld("t3,3;p0;", 3, 1, 1, 0);
        dueWorld("t3,3;p1;", 3, 1, 0, 0);
        dueWorld("t4,3;p0;", 4, 1, 1, 0);
        dueWorld("t4,3;s0;", 4, 3, 3, 0);
        dueWorld("t3,3;p0;p0;p0;", 27, 7, 100, 0);
        dueWorld("t3,6;s0;s0;s0;s0;s0;s0;", 729, 728, 222222, 0);
        dueWorld("t3,3;h0;p0;", 7, 3, 10, 0);
        Check.due("18: all of six on four", Check.on("t4,6;p0;p0;p0;p0;p0;p0;").world(0), 4096);
        PegDiscs x = Check.on("t3,3;p0;");
        Check.due("18: what -1", x.world(-1), BAD);
        Check.due("18: what 4", x.world(4), BAD);
        Check.due("18: no BOARD", new PegDiscs().world(0), STATE);
        Check.due("18: no BOARD ahead of BAD", new PegDiscs().world(4), STATE);
    }

    private static void worldDead() {
        dueWorld("t3,1;f0;", 3, 1, 1, 2);
        PegDiscs f = Check.on("t3,1;f0;");
        f.move(0, 2);
        int[] due = {1, 0, 2, 1};
        for (int what = 0; what < 4; what++) {
            Check.due("18: dead now, world(" + what + ")", f.world(what), due[what]);
        }
        // The upper frail one goes, then MOVES is odd for good.
        dueWorld("t3,1;f0;f0;", 3, 1, 1, 2);
    }

    private static void ring() {
        Check.due("19: no BOARD", new PegDiscs().ring(), STATE);
        Check.due("19: there and back", Check.on("t3,3;p0;p0;").ring(), 2);
        Check.due("19: a heavy one comes not back on the next", Check.on("t3,6;h0;p0;").ring(), NONE);
        PegDiscs f = Check.on("t3,1;f0;");
        Check.due("19: a frail one by itself", f.ring(), NONE);
        f.move(0, 1);
        Check.due("19: none at all", f.ring(), NONE);
        Check.due("19: frail over plain, each in turn", Check.on("t3,2;f0;p0;").ring(), 7);
        Check.due("19: frail over plain, on another PEG", Check.on("t3,2;f2;p2;").ring(), 7);
    }

    private static void ways() {
        PegDiscs x = Check.on("t3,3;p0;");
        Check.tell(x, 0, 0, 1, 2, 3, -1);
        for (int n = 0; n <= 12; n++) {
            long even = n % 2 == 0 ? 1 : -1;
            Check.due("20: back in " + n, x.ways(0, 0, n), ((1L << n) + 2 * even) / 3);
            Check.due("20: beside in " + n, x.ways(0, 1, n), ((1L << n) - even) / 3);
        }
        Check.due("20: no PEG", x.ways(0, 3, 0), 0);
        Check.due("20: no PEG", x.ways(0, 4, 2), 0);
        PegDiscs y = Check.on("t4,3;p3;");
        Check.tell(y, 0, 3, 0);
        Check.due("20: back in 12 on four", y.ways(0, 0, 12), 132861);
        Check.due("20: beside in 12 on four", y.ways(0, 1, 12), 132860);
        PegDiscs f = Check.on("t3,3;f0;p2;");
        Check.tell(f, 0, 1, 2, 1, 1);
        Check.due("20: frail in 1", f.ways(0, 0, 1), 1);
        Check.due("20: frail and plain in 2", f.ways(0, 2, 2), 0);
        f.move(2, 1);
        Check.due("20: frail from odd on in 1", f.ways(0, 2, 1), 0);
        Check.due("20: frail from odd on in 2", f.ways(0, 0, 2), 1);
    }

    private static void waysRefused() {
        PegDiscs n = new PegDiscs();
        Check.due("20: no BOARD", n.ways(0, 0, 0), STATE);
        Check.due("20: no BOARD ahead of BAD", n.ways(8, 0, 13), STATE);
        PegDiscs x = Check.on("t3,3;p0;p0;");
        x.row(0, 0, 3);
        Check.due("20: row -1", x.ways(-1, 0, 0), BAD);
        Check.due("20: row 8", x.ways(8, 0, 0), BAD);
        Check.due("20: n -1", x.ways(0, 0, -1), BAD);
        Check.due("20: n 13", x.ways(0, 0, 13), BAD);
        Check.due("20: BAD ahead of NULL", x.ways(1, 0, 13), BAD);
        Check.due("20: missing", x.ways(1, -1, 0), NULL);
        Check.due("20: place 1", x.ways(0, 1, 0), 1);
        for (int i : new int[] {-1, 2, MIN, MAX}) {
            Check.due("20: place " + i, x.ways(0, i, 0), PLACE);
        }
    }

    private static void judge() {
        PegDiscs x = Check.on("t3,3;p0;p0;p0;");
        Check.tell(x, 0, 2, 1, 21, 2, 10, 12, 2, 2, 99, 2, 1, 1);
        for (int n = 1; n <= 7; n++) {
            Check.due("21: all may be of " + n, x.judge(0, 0, n), NONE);
        }
        Check.due("21: the eighth", x.judge(0, 0, 8), 7);
        Check.due("21: from 9 on", x.judge(0, 9, 2), NONE);
        Check.due("21: counted from there on", x.judge(0, 9, 3), 2);
        Check.due("21: the first", x.judge(0, 8, 2), 0);
        for (int none : new int[] {0, 11, 22, 3, 30, 33, -1, -2, 100, 102, 20, 10, 9, 90, MIN, MAX, NONE}) {
            Check.tell(x, 1, none, 2);
            Check.due("21: " + none + " is none", x.judge(1, 0, 2), 0);
        }
        PegDiscs y = Check.on("t4,3;p3;f0;");
        Check.tell(y, 0, 30, 3, 23, 30, 32);
        Check.due("21: with four PEGS", y.judge(0, 0, 1), NONE);
        Check.due("21: of an empty one", y.judge(0, 0, 5), 2);
        Check.tell(y, 0, 1, 12);
        Check.due("21: frail, the second time", y.judge(0, 0, 2), 1);
        Check.tell(y, 0, 1, 30, 12);
        Check.due("21: frail, each second time", y.judge(0, 0, 3), NONE);
        y.move(3, 2);
        Check.tell(y, 0, 1);
        Check.due("21: frail, from odd on", y.judge(0, 0, 1), 0);
    }

    private static void judgeRefused() {
        PegDiscs n = new PegDiscs();
        Check.due("21: no BOARD", n.judge(0, 0, 1), STATE);
        Check.due("21: no BOARD ahead of BAD", n.judge(8, 0, 0), STATE);
        PegDiscs x = Check.on("t3,3;p0;");
        x.row(0, 0, 20);
        x.set(0, 0, 1);
        Check.due("21: row -1", x.judge(-1, 0, 1), BAD);
        Check.due("21: row 8", x.judge(8, 0, 1), BAD);
        Check.due("21: n 0", x.judge(0, 0, 0), BAD);
        Check.due("21: n 17", x.judge(0, 0, 17), BAD);
        Check.due("21: n 16", x.judge(0, 0, 16), 1);
        Check.due("21: BAD ahead of NULL", x.judge(1, 0, 0), BAD);
        Check.due("21: missing", x.judge(1, -1, 1), NULL);
        Check.due("21: the end", x.judge(0, 4, 16), 0);
        for (int i : new int[] {-1, 5, 20, MIN, MAX}) {
            Check.due("21: place " + i, x.judge(0, i, 16), PLACE);
        }
    }

    private static void fits() {
        PegDiscs x = Check.on("t3,3;p0;p0;p0;");
        Check.tell(x, 0, HANOI);
        int[] sorts = {50, 22, 26};
        for (int d = 0; d < 3; d++) {
            Check.due("22: SORTS of DISC " + d, x.fits(d, 0, 0, 7, 0), sorts[d]);
            Check.due("22: BEGAN of DISC " + d, x.fits(d, 0, 0, 7, 1), 1);
            Check.due("22: HIGHS by DISC " + d, x.fits(d, 0, 0, 7, 2), 126);
        }
        PegDiscs y = Check.on("t4,2;g0;p1;p1;p2;");
        Check.tell(y, 0, 5, 1, 13);
        Check.due("22: SORTS, on two", y.fits(0, 0, 1, 1, 0), 1 << 1 | 1 << 2);
        Check.due("22: HIGHS, on two", y.fits(0, 0, 1, 1, 2), 120);
        Check.due("22: HIGHS, any DISC alike", y.fits(3, 0, 1, 1, 2), 120);
        Check.due("22: BEGAN, it must be there", y.fits(0, 0, 1, 1, 1), 0);
        Check.due("22: BEGAN of another", y.fits(1, 0, 1, 1, 1), 1 | 1 << 2 | 1 << 3);
        Check.due("22: none at all", y.fits(0, 0, 0, 1, 2), 0);
        Check.due("22: BEGAN, not where the other one goes", y.fits(1, 0, 2, 1, 1), 7);
        y.move(0, 3);
        Check.tell(y, 0, 30);
        Check.due("22: SORTS from odd on", y.fits(0, 0, 0, 1, 0), 1 << 1 | 1 << 3 | 1 << 4);
        PegDiscs z = Check.on("t3,1;g2;");
        Check.tell(z, 0, 21, 10);
        Check.due("22: SORTS of two MOVES", z.fits(0, 0, 0, 2, 0), 30);
        Check.due("22: BEGAN of two MOVES", z.fits(0, 0, 0, 2, 1), 4);
    }

    private static void fitsRefused() {
        Check.due("22: no BOARD", new PegDiscs().fits(0, 0, 0, 1, 0), BAD);
        PegDiscs x = Check.on("t3,3;p0;p0;");
        Check.tell(x, 0, 1, 2, 1);
        Check.due("22: disc -1", x.fits(-1, 0, 0, 1, 0), BAD);
        Check.due("22: disc 2", x.fits(2, 0, 0, 1, 2), BAD);
        Check.due("22: row -1", x.fits(0, -1, 0, 1, 0), BAD);
        Check.due("22: row 8", x.fits(0, 8, 0, 1, 0), BAD);
        Check.due("22: n 0", x.fits(0, 0, 0, 0, 0), BAD);
        Check.due("22: n 17", x.fits(0, 0, 0, 17, 0), BAD);
        Check.due("22: what -1", x.fits(0, 0, 0, 1, -1), BAD);
        Check.due("22: what 3", x.fits(0, 0, 0, 1, 3), BAD);
        Check.due("22: BAD ahead of NULL", x.fits(0, 1, 0, 1, 3), BAD);
        Check.due("22: missing", x.fits(0, 1, -1, 1, 0), NULL);
        Check.due("22: the end", x.fits(0, 0, 2, 1, 1), 5);
        for (int i : new int[] {-1, 3, MIN, MAX}) {
            Check.due("22: place " + i, x.fits(0, 0, i, 1, 0), PLACE);
        }
        Check.due("22: beyond the end", x.fits(0, 0, 0, 4, 0), PLACE);
        Check.tell(x, 2, 1, 10, 1, 10, 1, 10, 1, 10, 1, 10, 1, 10, 1, 10, 1, 10);
        Check.due("22: n 16", x.fits(0, 2, 0, 16, 1), 5);
    }

    private static void dueChance(PegDiscs x, int disc, int peg, int n, long above, long below) {
        String call = "23: chance of DISC " + disc + " on " + peg + " behind " + n;
        Check.due(call + ", above", x.chance(disc, peg, n, 0), above);
        Check.due(call + ", below", x.chance(disc, peg, n, 1), below);
    }

    private static void chance() {
        PegDiscs x = Check.on("t3,3;p0;");
        dueChance(x, 0, 0, 0, 1, 1);
        dueChance(x, 0, 1, 0, 0, 1);
        dueChance(x, 0, 0, 1, 0, 1);
        dueChance(x, 0, 1, 1, 1, 2);
        dueChance(x, 0, 0, 2, 1, 2);
        dueChance(x, 0, 2, 2, 1, 4);
        dueChance(x, 0, 0, 7, 21, 64);
        PegDiscs y = Check.on("t4,3;p0;");
        dueChance(y, 0, 0, 7, 182, 729);
        dueChance(y, 0, 3, 7, 547, 2187);
        // Of three that may be first, two move DISC 0; of DISC 1 on PEG 1 only 1 to 2 may be.
        PegDiscs z = Check.on("t3,3;p0;p1;");
        dueChance(z, 0, 0, 1, 1, 3);
        dueChance(z, 1, 1, 1, 2, 3);
        dueChance(z, 1, 0, 1, 0, 1);
        PegDiscs f = Check.on("t3,3;f0;p1;p2;");
        f.move(1, 2);
        dueChance(f, 0, 0, 1, 1, 1);
    }

    private static void chanceStuck() {
        PegDiscs f = Check.on("t3,3;f0;");
        for (int n = 1; n <= 7; n++) {
            dueChance(f, 0, 0, n, 0, 1);
            dueChance(f, 0, 1, n, 1, 2);
            dueChance(f, 0, 2, n, 1, 2);
        }
        f.move(0, 1);
        dueChance(f, 0, 1, 6, 1, 1);
        dueChance(f, 0, 1, 7, 1, 1);
        // Behind the first MOVE both are frail and MOVES is odd: then all stays.
        PegDiscs g = Check.on("t3,3;f0;f0;");
        dueChance(g, 0, 1, 7, 1, 2);
        dueChance(g, 1, 0, 7, 1, 1);
    }

    private static void chanceRefused() {
        Check.due("23: no BOARD", new PegDiscs().chance(0, 0, 0, 0), BAD);
        PegDiscs x = Check.on("t3,3;p0;");
        int[][] bad = {{-1, 0, 0, 0}, {1, 0, 0, 0}, {0, -1, 0, 0}, {0, 3, 0, 0}, {0, 0, -1, 0}, {0, 0, 8, 0},
            {0, 0, 0, -1}, {0, 0, 0, 2}, {MAX, MIN, MAX, MIN}};
        for (int[] b : bad) {
            Check.due("23: BAD", x.chance(b[0], b[1], b[2], b[3]), BAD);
        }
    }

    private static void drawn() {
        PegDiscs x = Check.on("t3,3;p0;");
        int[] codes = {0, 2, 1, 2, 0, 1};
        for (int n = 0; n < codes.length; n++) {
            Check.due("24: the CODE behind " + n, x.drawn(n, 1, 0), codes[n]);
            Check.due("24: how often behind " + n, x.drawn(n, 1, 1), n);
        }
        PegDiscs y = Check.on("t3,3;p0;p0;p0;");
        Check.due("24: 20 by 7", y.drawn(20, 7, 0), 22);
        Check.due("24: 20 by 7, how often", y.drawn(20, 7, 1), 16);
        Check.due("24: 60 by 9", y.drawn(60, 9, 0), 112);
        Check.due("24: 60 by 9, how often", y.drawn(60, 9, 1), 39);
        PegDiscs z = Check.on("t3,3;p0;s0;h0;g1;f1;");
        Check.due("24: all KINDS, 20 by 7", z.drawn(20, 7, 0), 11022);
        Check.due("24: all KINDS, 20 by 7, how often", z.drawn(20, 7, 1), 18);
        Check.due("24: all KINDS, 60 by 9", z.drawn(60, 9, 0), 11002);
        Check.due("24: all KINDS, 60 by 9, how often", z.drawn(60, 9, 1), 42);
        PegDiscs f = Check.on("t3,3;f0;");
        Check.due("24: then all stays", f.drawn(60, 1, 0), 2);
        Check.due("24: once", f.drawn(60, 1, 1), 1);
        f.move(0, 1);
        Check.due("24: all stays", f.drawn(60, 1, 0), 1);
        Check.due("24: never", f.drawn(60, 1, 1), 0);
        Check.due("24: the greatest SEED", x.drawn(1, 999999, 0), 999999L * 16807 % 2147483647 % 2 == 0 ? 1 : 2);
    }

    private static void drawnRefused() {
        Check.due("24: no BOARD", new PegDiscs().drawn(0, 1, 0), STATE);
        Check.due("24: no BOARD ahead of BAD", new PegDiscs().drawn(-1, 0, 9), STATE);
        PegDiscs x = Check.on("t3,3;p0;");
        int[][] bad = {{-1, 1, 0}, {61, 1, 0}, {0, 0, 0}, {0, 1000000, 0}, {0, -1, 0}, {0, 1, -1}, {0, 1, 2}, {MIN, MAX, MIN}};
        for (int[] b : bad) {
            Check.due("24: BAD", x.drawn(b[0], b[1], b[2]), BAD);
        }
    }

    private static void image() {
        PegDiscs x = new PegDiscs();
        Check.due("25: -1", x.image(-1), BAD);
        Check.due("25: 2, BAD ahead of STATE", x.image(2), BAD);
        Check.due("25: no BOARD", x.image(0), STATE);
        Check.due("25: none was kept", x.restore(0), STATE);
        Check.feed(x, "t3,3;p0;p1;");
        x.board();
        x.move(0, 2);
        Check.due("25: kept", x.image(1), 1);
        Check.due("25: ACTS stay", x.count(5), 1);
        Check.due("25: the BOARD stays", x.count(7), 12);
        Check.due("25: the other one is not", x.restore(0), STATE);
        x.move(2, 0);
        Check.due("25: anew", x.image(1), 1);
        x.move(0, 2);
        x.restore(1);
        Check.due("25: in place of the one before", x.count(3), 2);
    }

    private static void restore() {
        PegDiscs x = Check.on("t4,3;g0;f1;");
        Check.due("26: -1", x.restore(-1), BAD);
        Check.due("26: 2", x.restore(2), BAD);
        x.move(0, 2);
        x.high(5);
        x.image(0);
        x.put(1, 3);
        x.high(1);
        x.move(2, 1);
        x.image(1);
        Check.due("26: the first", x.restore(0), 1);
        int[] due = {0, 4, 2, 1, 5, 0, 0, 12};
        for (int what = 0; what < 8; what++) {
            Check.due("26: count(" + what + ")", x.count(what), due[what]);
        }
        Check.due("26: no ACT can be undone", x.undo(), STATE);
        Check.due("26: MOVES is odd, frail may not", x.move(1, 0), STATE);
        Check.feed(x, "t3,1;p2;");
        x.board();
        Check.due("26: the second", x.restore(1), 1);
        Check.due("26: its CODE", x.count(7), 31);
        Check.due("26: its HIGH", x.count(4), 1);
        Check.due("26: its MOVES", x.count(3), 2);
        Check.due("26: its KINDS", x.kind(1), 5);
        Check.due("26: its PEGS", x.count(1), 4);
        Check.due("26: again", x.restore(0), 1);
        Check.due("26: as it was kept", x.count(7), 12);
        x.move(2, 3);
        x.restore(0);
        Check.due("26: what is done later is not kept", x.count(7), 12);
    }

    private static void foretellingChangesNothing() {
        PegDiscs x = Check.on("t4,3;p0;s1;h2;g3;f0;p1;");
        x.move(0, 1);
        Check.tell(x, 0, 1, 1, 2, 3, 0, 1, 13, 12);
        int before = x.count(7);
        x.can();
        x.least(0, 0, -1);
        x.tower(2, 5);
        x.world(2);
        x.ring();
        x.ways(0, 0, 5);
        x.judge(0, 6, 2);
        x.fits(0, 0, 6, 2, 0);
        x.fits(0, 0, 6, 2, 1);
        x.fits(0, 0, 6, 2, 2);
        x.chance(3, 1, 4, 0);
        x.drawn(30, 5, 0);
        Check.due("15 to 24: the CODE", x.count(7), before);
        Check.due("15 to 24: MOVES", x.count(3), 1);
        Check.due("15 to 24: HIGH", x.count(4), 3);
        Check.due("15 to 24: ACTS", x.count(5), 1);
        int[] kinds = {1, 2, 3, 4, 5, 1};
        for (int d = 0; d < 6; d++) {
            Check.due("15 to 24: KIND", x.kind(d), kinds[d]);
        }
    }

    private static void read(PegDiscs x, String text) {
        Check.feed(x, text);
        x.board();
    }

    /** What was foretold of one BOARD is not told of another that differs in one thing only. */
    private static void foretoldAnew() {
        PegDiscs x = Check.on("t3,1;g0;p1;");
        Check.tell(x, 0, 1, 1);
        dueAnew(x, "HIGH 1", NONE, 6, 0, 0);
        x.high(2);
        dueAnew(x, "HIGH 2", 1, 9, 1, 3);
        x.high(1);
        dueAnew(x, "HIGH 1 again", NONE, 6, 0, 0);
        read(x, "t3,1;p0;p1;");
        dueAnew(x, "another KIND", 1, 9, 1, 3);
        read(x, "t4,1;p0;p1;");
        dueAnew(x, "more PEGS", 1, 16, 1, 5);
        x.move(0, 1);
        dueAnew(x, "ARRANGED otherwise", 0, 16, 0, 0);
        read(x, "t4,1;p0;p1;p1;");
        Check.due("anew: more DISCS", x.world(0), 64);
        read(x, "t3,1;f0;");
        Check.due("anew: frail, even", x.world(0), 3);
        Check.due("anew: frail, even, dead", x.world(3), 2);
        x.move(0, 1);
        x.put(0, 0);
        Check.due("anew: frail, odd", x.world(0), 1);
        Check.due("anew: frail, odd, dead", x.world(3), 1);
        Check.due("anew: frail, odd, FAR", x.world(1), 0);
        x.undo();
        x.undo();
        Check.due("anew: frail, even again", x.world(0), 3);
    }

    /** LEAST and WAYS to both DISCS on PEG 1, WORLD, and what is below of DISC 0 there behind one MOVE. */
    private static void dueAnew(PegDiscs x, String what, int least, int world, int ways, int below) {
        Check.due("anew: " + what + ", LEAST", x.least(0, 0, -1), least);
        Check.due("anew: " + what + ", WORLD", x.world(0), world);
        Check.due("anew: " + what + ", WAYS", x.ways(0, 0, 1), ways);
        Check.due("anew: " + what + ", CHANCE", x.chance(0, 1, 1, 1), below == 0 ? 1 : below);
    }
}
