/** Promises 27 to 30: KINDS, ASKS, THE TRACE. */
public final class AskedTest {
    private static final int NONE = -1000000, BAD = -1000001, KIND = -1000013;
    private static final int MIN = Integer.MIN_VALUE, MAX = Integer.MAX_VALUE;
    private static final String ALL_KINDS = "t4,2;p1;s1;h2;g0;f3;p3;";

    public static void main(String[] args) {
        kind();
        as();
        ask();
        askAnew();
        trace();
        Check.end("AskedTest");
    }

    private static void kind() {
        PegDiscs x = Check.on(ALL_KINDS);
        int[] due = {1, 2, 3, 4, 5, 1};
        for (int d = 0; d < 6; d++) {
            Check.due("27: kind(" + d + ")", x.kind(d), due[d]);
        }
        for (int d : new int[] {-1, 6, MIN, MAX}) {
            Check.due("27: kind(" + d + ")", x.kind(d), BAD);
        }
        Check.due("27: no such DISC", Check.on("t3,1;p0;").kind(1), BAD);
        Check.due("27: no BOARD", new PegDiscs().kind(0), BAD);
    }

    private static void as() {
        PegDiscs x = Check.on(ALL_KINDS);
        String[] is = {"01", "012", "013", "04", "045", "01"};
        for (int d = 0; d < 6; d++) {
            for (int k = 0; k < 6; k++) {
                boolean such = is[d].indexOf('0' + k) >= 0;
                Check.due("28: as(" + d + ", " + k + ")", x.as(d, k), such ? d : KIND);
                Check.due("28: status", x.status(), such ? 0 : 3);
            }
        }
        int[][] bad = {{-1, 0}, {6, 0}, {0, -1}, {0, 6}, {MIN, MAX}};
        for (int[] b : bad) {
            Check.due("28: BAD", x.as(b[0], b[1]), BAD);
        }
        Check.due("28: no BOARD", new PegDiscs().as(0, 0), BAD);
    }

    private static void dueAsk(PegDiscs x, int disc, int what, int answer, int... bodies) {
        String call = "29: ask(" + disc + ", " + what + ")";
        Check.due(call, x.ask(disc, what), answer);
        for (int i = 0; i < bodies.length; i++) {
            Check.due(call + ", 30: trace(" + i + ")", x.trace(i), bodies[i]);
        }
        Check.due(call + ", 30: no more", x.trace(bodies.length), NONE);
    }

    private static void ask() {
        PegDiscs x = Check.on(ALL_KINDS);
        dueAsk(x, 0, 0, 3, 11, 10, 21, 20);
        dueAsk(x, 0, 1, 3, 21, 20);
        dueAsk(x, 1, 0, -7, 12, 11, 10, 24, 21, 20);
        dueAsk(x, 1, 1, 6, 24, 21, 20);
        dueAsk(x, 2, 0, -995, 11, 10, 22, 21, 20);
        dueAsk(x, 2, 1, -997, 22, 21, 20);
        dueAsk(x, 3, 0, -97, 13, 10);
        dueAsk(x, 3, 1, 97, 23, 20, 13, 10);
        dueAsk(x, 4, 0, -192, 14, 13, 10);
        dueAsk(x, 4, 1, 195, 23, 20, 14, 13, 10);
        dueAsk(x, 5, 0, 10, 11, 10, 21, 20);
        dueAsk(x, 5, 1, 5, 21, 20);
    }

    /** What is asked is asked of the BOARD as it is now. */
    private static void askAnew() {
        PegDiscs x = Check.on("t3,3;p0;p0;g1;");
        dueAsk(x, 0, 1, 2, 21, 20);
        x.move(0, 2);
        dueAsk(x, 0, 1, 3, 21, 20);
        dueAsk(x, 1, 1, 1, 21, 20);
        x.put(2, 2);
        dueAsk(x, 0, 1, 4, 21, 20);
        dueAsk(x, 2, 1, 2 + 98, 23, 20, 13, 10);
        x.undo();
        dueAsk(x, 2, 1, 1 + 98, 23, 20, 13, 10);
    }

    private static void trace() {
        PegDiscs x = Check.on(ALL_KINDS);
        Check.due("30: empty at first", x.trace(0), NONE);
        x.ask(1, 0);
        int[][] bad = {{-1, 0}, {6, 0}, {0, -1}, {0, 2}, {MIN, MAX}};
        for (int[] b : bad) {
            Check.due("29: BAD", x.ask(b[0], b[1]), BAD);
        }
        Check.due("29: BAD leaves THE TRACE", x.trace(5), 20);
        for (int i : new int[] {-1, 6, 15, 16, MIN, MAX}) {
            Check.due("30: trace(" + i + ")", x.trace(i), NONE);
        }
        Check.feed(x, "t3,1;g0;");
        x.board();
        x.kind(0);
        x.as(0, 4);
        Check.due("30: of the latest ask yet", x.trace(0), 12);
        x.ask(0, 0);
        Check.due("29: empty ahead of it", x.trace(2), NONE);
        Check.due("29: no BOARD", new PegDiscs().ask(0, 0), BAD);
    }
}
