/** Promises 6 to 14 and 31: the tape, boards, ACTS, what lies where, how many. */
public final class BoardsTest {
    private static final int NONE = -1000000, BAD = -1000001, STATE = -1000002, FULL = -1000003;
    private static final int MIN = Integer.MIN_VALUE, MAX = Integer.MAX_VALUE;

    public static void main(String[] args) {
        feed();
        board();
        faults();
        faultLeavesAll();
        boardInPlace();
        fault();
        move();
        moveKinds();
        moveFrail();
        moveFull();
        put();
        high();
        undo();
        undoOldest();
        disc();
        peg();
        count();
        Check.end("BoardsTest");
    }

    private static void feed() {
        PegDiscs x = new PegDiscs();
        Check.due("6: -1", x.feed(-1), BAD);
        Check.due("6: 256", x.feed(256), BAD);
        Check.due("6: MIN", x.feed(MIN), BAD);
        Check.due("6: nothing came", x.count(6), 0);
        Check.due("6: 0", x.feed(0), 1);
        Check.due("6: 255", x.feed(255), 2);
        for (int n = 3; n <= 60; n++) {
            Check.due("6: the " + n + "th", x.feed('a'), n);
        }
        Check.due("6: the tape is full", x.feed('a'), FULL);
        Check.due("6: BAD ahead of FULL", x.feed(256), BAD);
        Check.due("6: 60 yet", x.count(6), 60);
        x.board();
        Check.due("6: empty again", x.feed('a'), 1);
    }

    private static void dueBoard(String text, int want) {
        PegDiscs x = new PegDiscs();
        Check.feed(x, text);
        Check.due("7: " + text, x.board(), want);
        Check.due("7: " + text + ", the tape is empty", x.count(6), 0);
        Check.due("7: " + text + ", fault", x.fault(), 0);
        Check.due("7: " + text + ", DISCS", x.count(2), want);
    }

    private static void board() {
        dueBoard("t3,1;p0;", 1);
        dueBoard("t4,6;p3;", 1);
        dueBoard("t3,6;p0;s1;h2;g0;f1;p2;", 6);
        dueBoard("t03,06;p00;p02;", 2);
        PegDiscs x = Check.on("t4,5;p3;s1;h2;g0;f1;p3;");
        int[] pegs = {3, 1, 2, 0, 1, 3};
        int[] kinds = {1, 2, 3, 4, 5, 1};
        for (int d = 0; d < 6; d++) {
            Check.due("7: PEG of DISC " + d, x.disc(d, 0), pegs[d]);
            Check.due("7: KIND of DISC " + d, x.kind(d), kinds[d]);
        }
        Check.due("7: PEGS", x.count(1), 4);
        Check.due("7: HIGH", x.count(4), 5);
        Check.due("7: MOVES", x.count(3), 0);
    }

    private static void dueFault(String text, int place, int number) {
        PegDiscs x = new PegDiscs();
        Check.feed(x, text);
        Check.due("7: " + text, x.board(), -1000100 - place);
        Check.due("8: " + text, x.fault(), number);
        Check.due("7: " + text + ", the tape is empty", x.count(6), 0);
        Check.due("7: " + text + ", no BOARD", x.can(), STATE);
    }

    private static void faults() {
        dueFault("", 0, 1);
        dueFault("t", 1, 1);
        dueFault("p0;", 0, 1);
        dueFault(" t3,1;p0;", 0, 1);
        dueFault("T3,1;p0;", 0, 1);
        dueFault("t 3,1;p0;", 1, 1);
        dueFault("t2,1;p0;", 1, 2);
        dueFault("t5,1;p0;", 1, 2);
        dueFault("t30,1;p0;", 1, 2);
        dueFault("t333,1;p0;", 1, 1);
        dueFault("t003,1;p0;", 1, 1);
        dueFault("t3333333,1;p0;", 1, 1);
        dueFault("t3", 2, 1);
        dueFault("t3;1;p0;", 2, 1);
        dueFault("t03;1;p0;", 3, 1);
        dueFault("t3,", 3, 1);
        dueFault("t3,0;p0;", 3, 2);
        dueFault("t3,7;p0;", 3, 2);
        dueFault("t3,10;p0;", 3, 2);
        dueFault("t3,100;p0;", 3, 1);
        dueFault("t3,;", 3, 1);
        dueFault("t3,1", 4, 1);
        dueFault("t3,1,p0;", 4, 1);
        dueFault("t3,1;", 5, 1);
        dueFault("t3,1;x", 5, 1);
        dueFault("t3,1;;", 5, 1);
        dueFault("t3,1;0;", 5, 1);
        dueFault("t3,1;p", 6, 1);
        dueFault("t3,1;pp0;", 6, 1);
        dueFault("t3,1;p3;", 6, 2);
        dueFault("t4,1;p4;", 6, 2);
        dueFault("t3,1;p03;", 6, 2);
        dueFault("t3,1;p000;", 6, 1);
        dueFault("t3,1;p0", 7, 1);
        dueFault("t3,1;p00", 8, 1);
        dueFault("t3,1;p0,", 7, 1);
        dueFault("t3,1;p0;t3,1;", 8, 1);
        dueFault("t3,1;p0; ", 8, 1);
        dueFault("t3,1;p0;p", 9, 1);
        dueFault("t3,1;p0;p0;p0;p0;p0;p0;p0;", 23, 3);
        dueFault("t3,1;p0;p0;p0;p0;p0;p0;p", 23, 3);
        dueFault("t3,1;p0;p0;p0;p0;p0;p0;f9;", 23, 3);
        dueFault("t3,1;p0;p0;p0;p0;p0;p0;x0;", 23, 1);
        dueFault("t3,1;p0;p0;p0;p0;p0;p0;;", 23, 1);
        dueFault("t3,1;p0;p0;p0;p0;p0;p9;p0;", 21, 2);
        dueFault("t3,9;p0\u00e9", 3, 2);
        dueFault("t3,1;\u00f00;", 5, 1);
    }

    private static void faultLeavesAll() {
        PegDiscs x = Check.on("t3,2;p0;g1;");
        x.move(0, 2);
        x.image(0);
        Check.feed(x, "t4,5;p0;p0;p0;p9;");
        Check.due("7: a FAULT", x.board(), -1000115);
        Check.due("7: PEGS stay", x.count(1), 3);
        Check.due("7: DISCS stay", x.count(2), 2);
        Check.due("7: MOVES stays", x.count(3), 1);
        Check.due("7: HIGH stays", x.count(4), 2);
        Check.due("7: ACTS stay", x.count(5), 1);
        Check.due("7: all lie as they lay", x.count(7), 12);
        Check.due("7: KINDS stay", x.kind(1), 4);
        Check.due("7: undone", x.undo(), 0);
        Check.due("7: as it was", x.count(7), 10);
    }

    private static void boardInPlace() {
        PegDiscs x = Check.on("t4,2;p3;g1;h2;");
        x.move(3, 0);
        x.high(5);
        x.image(1);
        Check.feed(x, "t3,3;s2;");
        Check.due("7: another", x.board(), 1);
        Check.due("7: PEGS", x.count(1), 3);
        Check.due("7: DISCS", x.count(2), 1);
        Check.due("7: MOVES is 0", x.count(3), 0);
        Check.due("7: HIGH", x.count(4), 3);
        Check.due("7: no ACT can be undone", x.count(5), 0);
        Check.due("7: undo", x.undo(), STATE);
        Check.due("7: CODE", x.count(7), 2);
        Check.due("7: KIND", x.kind(0), 2);
        Check.due("7: DISC 1 is gone", x.kind(1), BAD);
        Check.due("7: PEG 3 is gone", x.peg(3, 0), BAD);
        Check.due("7: an IMAGE stays", x.restore(1), 1);
        Check.due("7: as it was kept", x.count(7), 210);
    }

    private static void fault() {
        PegDiscs x = new PegDiscs();
        Check.due("8: before one", x.fault(), 0);
        Check.feed(x, "t3,1;p0;");
        x.board();
        Check.due("8: none yet", x.fault(), 0);
        Check.feed(x, "t9");
        x.board();
        Check.due("8: not as told", x.fault(), 2);
        Check.feed(x, "t3,1;p0;");
        x.board();
        Check.due("8: the latest yet", x.fault(), 2);
        x.board();
        Check.due("8: another", x.fault(), 1);
    }

    private static void move() {
        PegDiscs x = Check.on("t3,3;p0;p0;p1;");
        Check.due("9: from -1", x.move(-1, 0), BAD);
        Check.due("9: to -1", x.move(0, -1), BAD);
        Check.due("9: from 3", x.move(3, 0), BAD);
        Check.due("9: to 3", x.move(0, 3), BAD);
        Check.due("9: alike", x.move(0, 0), BAD);
        Check.due("9: alike and empty", x.move(2, 2), BAD);
        Check.due("9: MAX", x.move(MAX, MIN), BAD);
        Check.due("9: from an empty one", x.move(2, 0), STATE);
        Check.due("9: on a lesser one", x.move(1, 0), STATE);
        Check.due("9: nothing changed", x.count(3) + x.count(5), 0);
        Check.due("9: on a greater one", x.move(0, 1), 0);
        Check.due("9: it lies there", x.disc(0, 0), 1);
        Check.due("9: the next one", x.move(0, 2), 1);
        Check.due("9: not on a lesser one", x.move(2, 1), STATE);
        Check.due("9: MOVES", x.count(3), 2);
        Check.due("9: ACTS", x.count(5), 2);
        Check.due("9: CODE", x.count(7), 121);
        Check.due("9: no BOARD", new PegDiscs().move(0, 1), BAD);
    }

    private static void moveKinds() {
        PegDiscs s = Check.on("t4,6;s1;");
        Check.due("9: short, two off", s.move(1, 3), STATE);
        Check.due("9: short, beside", s.move(1, 2), 0);
        Check.due("9: short, beside", s.move(2, 3), 0);
        Check.due("9: short, three off", s.move(3, 0), STATE);
        PegDiscs t = Check.on("t3,6;p0;s1;");
        Check.due("9: short, on a lesser one", t.move(1, 0), STATE);
        PegDiscs h = Check.on("t3,6;p2;h0;p1;p2;");
        Check.due("9: heavy, on the next one", h.move(0, 1), STATE);
        Check.due("9: heavy, on a lesser one", h.move(0, 2), STATE);
        Check.due("9: away", h.move(2, 1), 0);
        Check.due("9: heavy, on one two greater", h.move(0, 2), 1);
        PegDiscs b = Check.on("t3,6;h0;p1;p1;");
        Check.due("9: heavy, the next one among others", b.move(0, 1), STATE);
        Check.due("9: heavy, on none", b.move(0, 2), 0);
        PegDiscs l = Check.on("t3,6;p0;p0;p0;p0;p0;h1;");
        Check.due("9: heavy, the greatest", l.move(1, 2), 5);
        PegDiscs g = Check.on("t3,2;g0;p1;p1;p2;");
        Check.due("9: glass, HIGH lie there", g.move(0, 1), STATE);
        Check.due("9: glass, fewer", g.move(0, 2), 0);
        PegDiscs m = Check.on("t3,6;p0;g1;");
        Check.due("9: glass, on a lesser one", m.move(1, 0), STATE);
        PegDiscs p = Check.on("t3,1;p0;p1;p1;");
        Check.due("9: plain, HIGH is nothing to it", p.move(0, 1), 0);
    }

    private static void moveFrail() {
        PegDiscs x = Check.on("t3,1;f0;p1;p2;p2;");
        Check.due("9: frail, HIGH lie there", x.move(0, 1), STATE);
        Check.due("9: frail, more do", x.move(0, 2), STATE);
        x.put(1, 2);
        Check.due("9: frail, MOVES is even", x.move(0, 1), 0);
        Check.due("9: frail, MOVES is odd", x.move(1, 0), STATE);
        Check.due("9: a plain one", x.move(2, 0), 1);
        Check.due("9: frail, even again", x.move(1, 0), STATE);
        x.high(2);
        Check.due("9: frail, even again", x.move(1, 0), 0);
        x.undo();
        Check.due("9: undone, even yet", x.move(1, 0), 0);
        PegDiscs y = Check.on("t3,6;p0;f1;");
        Check.due("9: frail, on a lesser one", y.move(1, 0), STATE);
    }

    /** Far beyond the 512 calls that are promised; there is no other way to come to 9999 MOVES. */
    private static void moveFull() {
        PegDiscs x = Check.on("t3,1;p0;p2;");
        for (int n = 0; n < 9999; n++) {
            x.move(n % 2, 1 - n % 2);
        }
        Check.due("9: MOVES", x.count(3), 9999);
        Check.due("9: no more", x.move(1, 0), FULL);
        Check.due("9: STATE ahead of FULL", x.move(0, 1), STATE);
        Check.due("9: BAD ahead of FULL", x.move(1, 1), BAD);
        Check.due("9: ACTS", x.count(5), 24);
        Check.due("9: one less", x.undo(), 23);
        Check.due("9: then one more", x.move(0, 1), 0);
    }

    private static void put() {
        PegDiscs x = Check.on("t3,1;f0;g0;s1;");
        Check.due("10: disc -1", x.put(-1, 0), BAD);
        Check.due("10: disc 3", x.put(3, 0), BAD);
        Check.due("10: peg -1", x.put(0, -1), BAD);
        Check.due("10: peg 3", x.put(0, 3), BAD);
        Check.due("10: it is there", x.put(1, 0), STATE);
        Check.due("10: nothing changed", x.count(5), 0);
        Check.due("10: not on top, whatever it may", x.put(1, 1), 0);
        Check.due("10: beneath a lesser one", x.put(2, 0), 1);
        Check.due("10: back", x.put(1, 0), 1);
        Check.due("10: MOVES stays", x.count(3), 0);
        Check.due("10: ACTS", x.count(5), 3);
        Check.due("10: all on one", x.peg(0, 1), 7);
        Check.due("10: no BOARD", new PegDiscs().put(0, 0), BAD);
    }

    private static void high() {
        Check.due("11: no BOARD", new PegDiscs().high(3), STATE);
        Check.due("11: no BOARD ahead of BAD", new PegDiscs().high(0), STATE);
        PegDiscs x = Check.on("t3,2;g0;p1;");
        Check.due("11: 0", x.high(0), BAD);
        Check.due("11: 7", x.high(7), BAD);
        Check.due("11: MIN", x.high(MIN), BAD);
        Check.due("11: HIGH stays", x.count(4), 2);
        Check.due("11: no ACT", x.count(5), 0);
        Check.due("11: 1", x.high(1), 2);
        Check.due("11: glass may not", x.move(0, 1), STATE);
        Check.due("11: 6", x.high(6), 1);
        Check.due("11: glass may", x.move(0, 1), 0);
        Check.due("11: HIGH", x.count(4), 6);
        Check.due("11: ACTS", x.count(5), 3);
        Check.due("11: MOVES", x.count(3), 1);
    }

    private static void undo() {
        PegDiscs x = Check.on("t3,2;p0;p0;");
        Check.due("12: none", x.undo(), STATE);
        x.move(0, 2);
        x.put(1, 1);
        x.high(5);
        x.move(2, 1);
        Check.due("12: the second MOVE", x.undo(), 3);
        Check.due("12: CODE", x.count(7), 12);
        Check.due("12: MOVES", x.count(3), 1);
        Check.due("12: HIGH yet", x.count(4), 5);
        Check.due("12: HIGH", x.undo(), 2);
        Check.due("12: it is what it was", x.count(4), 2);
        Check.due("12: SET by hand", x.undo(), 1);
        Check.due("12: CODE", x.count(7), 2);
        Check.due("12: MOVES stays", x.count(3), 1);
        Check.due("12: the first MOVE", x.undo(), 0);
        Check.due("12: CODE", x.count(7), 0);
        Check.due("12: MOVES", x.count(3), 0);
        Check.due("12: none", x.undo(), STATE);
        Check.due("12: an undone ACT is gone", x.move(0, 1), 0);
        Check.due("12: one", x.count(5), 1);
        Check.due("12: refused ones are no ACTS", x.move(0, 1), STATE);
        Check.due("12: one yet", x.undo(), 0);
        Check.due("12: no BOARD", new PegDiscs().undo(), STATE);
    }

    private static void undoOldest() {
        PegDiscs x = Check.on("t3,3;p0;");
        for (int n = 1; n <= 30; n++) {
            x.put(0, n % 3);
            Check.due("12: kept", x.count(5), Math.min(n, 24));
        }
        for (int n = 29; n >= 6; n--) {
            Check.due("12: how many yet", x.undo(), n - 6);
            Check.due("12: as it was", x.disc(0, 0), n % 3);
        }
        Check.due("12: the oldest are forgotten", x.undo(), STATE);
        Check.due("12: as behind the sixth", x.disc(0, 0), 0);
        for (int n = 0; n < 26; n++) {
            x.move(n % 2, 1 - n % 2);
        }
        Check.due("12: full again", x.count(5), 24);
        for (int n = 0; n < 24; n++) {
            x.undo();
        }
        Check.due("12: MOVES that are kept", x.count(3), 2);
    }

    private static void disc() {
        PegDiscs x = Check.on("t4,2;p1;s1;h2;g0;f3;p3;");
        int[][] due = {{1, 1, 13}, {1, 0, 0}, {2, 1, 8}, {0, 1, 0}, {3, 1, 0}, {3, 0, 0}};
        for (int d = 0; d < 6; d++) {
            for (int what = 0; what < 3; what++) {
                Check.due("13: disc(" + d + ", " + what + ")", x.disc(d, what), due[d][what]);
            }
        }
        Check.due("13: disc -1", x.disc(-1, 0), BAD);
        Check.due("13: disc 6", x.disc(6, 0), BAD);
        Check.due("13: what -1", x.disc(0, -1), BAD);
        Check.due("13: what 3", x.disc(0, 3), BAD);
        Check.due("13: no BOARD", new PegDiscs().disc(0, 0), BAD);
        x.move(1, 0);
        Check.due("13: short, beside", x.disc(1, 2), 4);
        PegDiscs f = Check.on("t3,6;f0;p1;");
        Check.due("13: frail, even", f.disc(0, 2), 6);
        f.move(1, 2);
        Check.due("13: frail, odd", f.disc(0, 2), 0);
        Check.due("13: on top all the same", f.disc(0, 1), 1);
    }

    private static void peg() {
        PegDiscs x = Check.on("t4,2;p1;s1;h2;g0;f1;p2;");
        int[][] due = {{1, 8, 3}, {3, 19, 0}, {2, 36, 2}, {0, 0, NONE}};
        for (int p = 0; p < 4; p++) {
            for (int what = 0; what < 3; what++) {
                Check.due("14: peg(" + p + ", " + what + ")", x.peg(p, what), due[p][what]);
            }
        }
        Check.due("14: peg -1", x.peg(-1, 0), BAD);
        Check.due("14: peg 4", x.peg(4, 0), BAD);
        Check.due("14: what -1", x.peg(0, -1), BAD);
        Check.due("14: what 3", x.peg(0, 3), BAD);
        Check.due("14: peg 3 of 3", Check.on("t3,1;p0;").peg(3, 0), BAD);
        Check.due("14: no BOARD", new PegDiscs().peg(0, 0), BAD);
    }

    private static void count() {
        PegDiscs x = Check.on("t4,2;p1;s1;h2;g0;f3;p3;");
        x.row(3, 0, 1);
        x.row(5, 0, 0);
        x.feed('a');
        x.feed('b');
        x.feed('c');
        x.move(1, 0);
        x.high(4);
        x.put(5, 2);
        x.move(0, 3);
        int[] due = {2, 4, 6, 2, 4, 4, 3, 230213};
        for (int what = 0; what < 8; what++) {
            Check.due("31: count(" + what + ")", x.count(what), due[what]);
        }
        Check.due("31: -1", x.count(-1), BAD);
        Check.due("31: 8", x.count(8), BAD);
        Check.due("31: MIN", x.count(MIN), BAD);
        Check.due("31: a CODE of figures 3", Check.on("t4,1;p3;p3;p3;p3;p3;p3;").count(7), 333333);
    }
}
