/** Promises 1 to 32 in their order: each refusal and FINDING that a promise names, from both sides of its boundary. */
public final class PromisesEdgesTest {
    public static void main(String[] args) {
        newObject();
        row();
        set();
        copy();
        copyOfNone();
        copyOverItself();
        drop();
        feed();
        board();
        fault();
        move();
        put();
        high();
        undo();
        disc();
        peg();
        can();
        least();
        leastItems();
        tower();
        world();
        ring();
        ways();
        judge();
        fits();
        chance();
        drawn();
        image();
        restore();
        kind();
        as();
        ask();
        trace();
        count();
        statusOfRows();
        statusOfForetold();
        statusOfRefused();
        Check.end("PromisesEdgesTest");
    }

    private static void newObject() {
        Sheet.of("1: No BOARD", """
                can = STATE
                ring = STATE
                undo = STATE
                image 0 = STATE
                restore 0 = STATE
                restore 1 = STATE
                kind 0 = BAD
                peg 0 0 = BAD
                fault = 0
                status = 0
                trace 0 = NONE
                """);
        for (int what = 0; what < 8; what++) {
            Sheet.of("1: none of it yet", "count " + what + " = 0");
        }
    }

    private static void row() {
        Sheet.of("2: BAD: ROW, LANE, n above 40; SIZE", """
                row -1 0 1 = BAD
                row MIN 0 1 = BAD
                row 8 0 1 = BAD
                row MAX 0 1 = BAD
                row 0 -1 1 = BAD
                row 0 MIN 1 = BAD
                row 0 3 1 = BAD
                row 0 MAX 1 = BAD
                row 0 0 41 = BAD
                row 0 0 MAX = BAD
                count 0 = 0
                row 0 0 -1 = SIZE
                row 0 0 MIN = SIZE
                count 0 = 0
                row 0 0 0 = 0
                row 0 2 40 = 40
                row 7 0 40 = 40
                row 7 2 0 = 0
                count 0 = 2
                drop 0 = 40
                drop 7 = 0
                """);
        Sheet.of("2: in place of what is there", """
                read t3,1;p0; = 1
                row 0 2 2 = 2
                set 0 1 2 = 2
                row 0 0 41 = BAD
                row 0 0 -1 = SIZE
                set 0 1 300 = 300              # of ints yet
                set 0 1 2 = 2
                least 0 1 0 = 2
                row 0 0 2 = 2
                least 0 1 -1 = 0               # 0 at first
                set 0 1 300 = 44               # of bytes now
                set 0 2 0 = PLACE
                row 0 1 3 = 3
                set 0 2 300 = 300              # of shorts now
                set 0 3 0 = PLACE
                count 0 = 1
                """);
    }

    private static void set() {
        Sheet.of("3: BAD: ROW; NULL; PLACE", """
                set -1 0 1 = BAD
                set MIN 0 1 = BAD
                set 8 0 1 = BAD
                set MAX 0 1 = BAD
                set 0 0 1 = NULL
                set 7 0 1 = NULL
                row 0 0 0 = 0
                set 0 0 1 = PLACE
                row 0 0 1 = 1
                set 0 -1 1 = PLACE
                set 0 0 1 = 1
                set 0 1 1 = PLACE
                row 7 2 40 = 40
                set 7 MIN 1 = PLACE
                set 7 -1 1 = PLACE
                set 7 0 MIN = MIN
                set 7 39 MAX = MAX
                set 7 40 1 = PLACE
                set 7 MAX 1 = PLACE
                drop 0 = 1
                set 0 0 1 = NULL
                """);
    }

    private static void copy() {
        Sheet.of("4: BAD: ROWS; NULL; STORE; PLACE", """
                row 0 2 3 = 3
                row 1 2 5 = 5
                row 2 0 5 = 5
                row 3 1 5 = 5
                copy -1 0 1 0 1 = BAD
                copy 8 0 1 0 1 = BAD
                copy 0 0 -1 0 1 = BAD
                copy 0 0 8 0 1 = BAD
                copy MIN 0 MAX 0 1 = BAD
                copy 4 0 1 0 1 = NULL
                copy 0 0 4 0 1 = NULL
                copy 7 0 7 0 0 = NULL
                copy 0 0 2 0 1 = STORE
                copy 2 0 3 0 1 = STORE
                copy 3 0 0 0 1 = STORE
                copy 0 0 1 0 1 = 1
                """);
        Sheet.of("4: PLACE (i, j, n below 0, or beyond an end)", "row 0 2 3 = 3", "row 1 2 5 = 5", """
                copy 0 -1 1 0 1 = PLACE
                copy 0 0 1 -1 1 = PLACE
                copy 0 0 1 0 -1 = PLACE
                copy 0 0 1 0 3 = 3
                copy 0 0 1 0 4 = PLACE
                copy 0 0 1 2 3 = 3
                copy 0 0 1 3 3 = PLACE
                copy 0 2 1 4 1 = 1
                copy 0 3 1 4 1 = PLACE
                copy 0 2 1 5 1 = PLACE
                copy 1 2 0 0 3 = 3
                copy 1 3 0 0 3 = PLACE
                copy 1 0 0 0 4 = PLACE
                copy 0 MIN 1 0 1 = PLACE
                copy 0 MAX 1 0 1 = PLACE
                copy 0 0 1 MIN 1 = PLACE
                copy 0 0 1 MAX 1 = PLACE
                copy 0 0 1 0 MIN = PLACE
                copy 0 0 1 0 MAX = PLACE
                copy 0 1 1 1 MAX = PLACE
                copy 0 MAX 1 MAX MAX = PLACE
                """);
    }

    private static void copyOfNone() {
        Sheet.of("4: n 0", "row 0 2 3 = 3", "row 1 2 0 = 0", "row 2 1 0 = 0", """
                copy 0 0 1 0 0 = 0
                copy 0 3 1 0 0 = 0             # at the end, not beyond it
                copy 0 4 1 0 0 = PLACE
                copy 0 0 1 1 0 = PLACE
                copy 1 0 0 3 0 = 0
                copy 1 0 0 4 0 = PLACE
                copy 1 0 0 0 1 = PLACE
                copy 0 -1 1 0 0 = PLACE
                copy 0 0 1 -1 0 = PLACE
                copy 0 0 2 0 0 = STORE
                copy 0 0 3 0 0 = NULL
                """);
    }

    private static void copyOverItself() {
        Sheet.of("4: as they were ahead", "read t4,1;p0; = 1", "tell 0 1 2 3 1", """
                copy 0 0 0 1 3 = 3             # 1 1 2 3
                least 0 0 0 = 1
                least 0 1 0 = 1
                least 0 2 0 = 2
                least 0 3 0 = 3
                copy 0 1 0 0 3 = 3             # 1 2 3 3
                least 0 0 0 = 1
                least 0 1 0 = 2
                least 0 2 0 = 3
                least 0 3 0 = 3
                copy 0 0 0 0 4 = 4
                least 0 1 0 = 2
                copy 0 0 0 1 4 = PLACE
                least 0 1 0 = 2
                """);
    }

    private static void drop() {
        Sheet.of("5: A ROW is missing from now on. BAD; NULL", """
                drop -1 = BAD
                drop 8 = BAD
                drop MIN = BAD
                drop MAX = BAD
                drop 0 = NULL
                drop 7 = NULL
                row 0 0 0 = 0
                row 7 1 40 = 40
                drop 0 = 0
                drop 0 = NULL
                drop 7 = 40
                drop 7 = NULL
                set 7 0 0 = NULL
                copy 7 0 7 0 0 = NULL
                count 0 = 0
                """);
    }

    private static void feed() {
        Sheet.of("6: A byte (0 to 255). BAD; FULL", """
                feed -1 = BAD
                feed MIN = BAD
                feed 256 = BAD
                feed MAX = BAD
                count 6 = 0
                feed 0 = 1
                feed 255 = 2
                count 6 = 2
                """).times(57, "feed a").on("""
                count 6 = 59
                feed 255 = 60
                feed 0 = FULL
                feed 255 = FULL
                feed 256 = BAD
                count 6 = 60
                """);
    }

    private static void board() {
        Sheet.of("7: how many DISCS; -1000100 less the place of a FAULT", """
                board = -1000100
                read t3,1;p0; = 1
                read t3,1;p0;p0;p0;p0;p0;p0; = 6
                read t3,1;p0;p0;p0;p0;p0;p0;p0; = -1000123
                count 2 = 6
                count 6 = 0
                board = -1000100               # the tape is empty
                count 2 = 6
                """);
    }

    private static void fault() {
        Sheet.of("8: the latest FAULT; 0 before one", """
                fault = 0
                read t3,1;p0; = 1
                fault = 0
                read t3,1;p3; = FAULT6
                fault = 2
                read t3,1;p0; = 1
                fault = 2                      # the latest yet
                read t3,1;p0;p0;p0;p0;p0;p0;p0; = FAULT23
                fault = 3
                board = FAULT0
                fault = 1
                """);
    }

    private static void move() {
        Sheet.of("9: BAD (alike, too); STATE: it may not be", """
                move 0 1 = BAD                 # no BOARD, no PEG
                read t3,1;p2;p0; = 2
                move -1 0 = BAD
                move 0 -1 = BAD
                move 3 0 = BAD
                move 0 3 = BAD
                move MIN MAX = BAD
                move 0 0 = BAD
                move 2 2 = BAD
                move 1 1 = BAD
                move 1 0 = STATE
                move 0 2 = STATE
                count 3 = 0
                count 5 = 0
                move 2 0 = 0
                move 0 2 = 0
                move 0 1 = 1
                count 3 = 3
                read t4,1;p3; = 1
                move 4 0 = BAD
                move 0 4 = BAD
                move 3 3 = BAD
                move 3 0 = 0
                move 0 3 = 0
                """);
    }

    private static void put() {
        Sheet.of("10: BAD; STATE: it is there", """
                put 0 0 = BAD                  # no BOARD, no DISC
                read t3,1;p2;p0; = 2
                put -1 0 = BAD
                put 2 0 = BAD
                put MAX 0 = BAD
                put 0 -1 = BAD
                put 0 3 = BAD
                put 0 MIN = BAD
                put 0 2 = STATE
                put 1 0 = STATE
                count 5 = 0
                put 0 0 = 2
                put 0 0 = STATE
                put 1 2 = 0
                put 1 2 = STATE
                count 5 = 2
                read t4,1;p0;p0;p0;p0;p0;p0; = 6
                put 5 3 = 0
                put 5 4 = BAD
                put 6 3 = BAD
                """);
    }

    private static void high() {
        Sheet.of("11: HIGH is v (1 to 6). BAD; STATE: no BOARD (ahead of BAD)", """
                high 0 = STATE
                high 1 = STATE
                high 6 = STATE
                high 7 = STATE
                read t3,3;p0; = 1
                high 0 = BAD
                high 7 = BAD
                high MIN = BAD
                high MAX = BAD
                count 4 = 3
                count 5 = 0
                high 1 = 3
                high 6 = 1
                count 4 = 6
                count 5 = 2
                """);
    }

    private static void undo() {
        Sheet.of("12: how many can be undone yet. STATE: none", """
                undo = STATE
                read t3,1;p0; = 1
                undo = STATE
                move 0 1 = 0
                undo = 0
                undo = STATE
                count 7 = 0
                count 3 = 0
                move 0 1 = 0
                put 0 2 = 1
                high 2 = 1
                undo = 2
                undo = 1
                undo = 0
                undo = STATE
                move 0 1 = 0
                image 0 = 1
                restore 0 = 1
                undo = STATE
                """);
    }

    private static void disc() {
        Sheet.of("13: Of a DISC: 0, 1, 2. BAD", """
                disc 0 0 = BAD                 # no BOARD, no DISC
                read t3,1;p0;p0; = 2
                disc -1 0 = BAD
                disc 2 0 = BAD
                disc MIN 0 = BAD
                disc 0 -1 = BAD
                disc 0 3 = BAD
                disc 0 MAX = BAD
                disc 0 0 = 0
                disc 0 1 = 1
                disc 0 2 = 6
                disc 1 0 = 0
                disc 1 1 = 0                   # not on top
                disc 1 2 = 0
                move 0 2 = 0
                disc 1 1 = 1
                disc 1 2 = 2
                disc 0 0 = 2
                disc 0 2 = 3
                read t4,1;p0;p0;p0;p0;p0;p3; = 6
                disc 5 0 = 3
                disc 5 2 = 6
                disc 6 0 = BAD
                """);
    }

    private static void peg() {
        Sheet.of("14: Of a PEG: 0, 1, 2 (NONE). BAD", """
                peg 0 0 = BAD                  # no BOARD, no PEG
                read t3,1;p2;p2;p0; = 3
                peg -1 0 = BAD
                peg 3 0 = BAD
                peg MAX 0 = BAD
                peg 0 -1 = BAD
                peg 0 3 = BAD
                peg 0 MIN = BAD
                peg 0 0 = 1
                peg 0 1 = 4
                peg 0 2 = 2
                peg 1 0 = 0
                peg 1 1 = 0
                peg 1 2 = NONE
                peg 2 0 = 2
                peg 2 1 = 3
                peg 2 2 = 0
                read t4,1;p3;p3;p3;p3;p3;p3; = 6
                peg 3 0 = 6
                peg 3 1 = 63
                peg 3 2 = 0
                peg 4 0 = BAD
                """);
    }

    private static void can() {
        Sheet.of("15: STATE: no BOARD", """
                can = STATE
                read t3,1; = FAULT5
                can = STATE
                read t3,1;p0; = 1
                can = 6
                """);
    }

    private static void least() {
        Sheet.of("16: BAD: ROW, k below -1; STATE: no BOARD (ahead of BAD); NULL; PLACE", """
                row 7 2 4 = 4
                least 7 0 -1 = STATE
                least 8 0 -1 = STATE
                least 7 0 -2 = STATE
                read t3,1;p0;p0; = 2
                least -1 0 -1 = BAD
                least 8 0 -1 = BAD
                least MIN 0 -1 = BAD
                least 7 0 -2 = BAD
                least 7 0 MIN = BAD
                least 7 0 -1 = 0
                least 7 0 0 = NONE
                least 7 0 MAX = NONE
                least 0 0 -1 = NULL
                least 0 0 0 = NULL
                least 7 -1 -1 = PLACE
                least 7 MIN -1 = PLACE
                least 7 2 -1 = 0               # as many ITEMS from i on as there are DISCS
                least 7 3 -1 = PLACE
                least 7 4 -1 = PLACE
                least 7 MAX -1 = PLACE
                read t3,1;p0;p0;p0;p0; = 4
                least 7 0 -1 = 0
                least 7 1 -1 = PLACE
                read t3,1;p0;p0;p0;p0;p0; = 5
                least 7 0 -1 = PLACE
                """);
    }

    private static void leastItems() {
        Sheet.of("16: how many, the k-th (NONE: there are fewer); NONE: an ITEM is no PEG, too", """
                read t3,1;p0;p0; = 2
                tell 0 2 2 3 0 -1 0 0 3
                least 0 0 -1 = 3
                least 0 0 0 = 1
                least 0 0 1 = 2
                least 0 0 2 = 12
                least 0 0 3 = NONE
                least 0 1 -1 = NONE            # 2 3
                least 0 2 -1 = NONE            # 3 0
                least 0 2 0 = NONE
                least 0 3 -1 = NONE            # 0 -1
                least 0 4 -1 = NONE            # -1 0
                least 0 5 -1 = 0               # 0 0
                least 0 6 -1 = NONE            # 0 3
                least 0 7 -1 = PLACE
                read t4,1;p0;p0; = 2
                least 0 6 -1 = 3               # 3 is a PEG now
                tell 0 4 0 MIN MAX
                least 0 0 -1 = NONE
                least 0 2 -1 = NONE
                """);
    }

    private static void tower() {
        Sheet.of("17: BAD: PEG, k below -1; STATE: no BOARD (ahead of BAD)", """
                tower 0 -1 = STATE
                tower -1 -1 = STATE
                tower 0 -2 = STATE
                read t3,1;p0;p0; = 2
                tower -1 -1 = BAD
                tower 3 -1 = BAD
                tower MIN -1 = BAD
                tower MAX -1 = BAD
                tower 0 -2 = BAD
                tower 0 MIN = BAD
                tower 0 -1 = 0
                tower 0 0 = NONE
                tower 2 -1 = 3
                tower 2 0 = 1
                tower 2 2 = 12
                tower 2 3 = NONE
                tower 2 MAX = NONE
                read t4,1;p0; = 1
                tower 3 -1 = 1
                tower 4 -1 = BAD
                """);
    }

    private static void world() {
        Sheet.of("18: what 0 to 3. BAD; STATE: no BOARD (ahead of BAD)", """
                world 0 = STATE
                world -1 = STATE
                world 4 = STATE
                read t3,1;f1; = 1
                world -1 = BAD
                world MIN = BAD
                world 0 = 3
                world 1 = 1
                world 2 = 0
                world 3 = 2
                world 4 = BAD
                world MAX = BAD
                """);
    }

    private static void ring() {
        Sheet.of("19: RING; NONE. STATE: no BOARD", """
                ring = STATE
                read t3,1;p0; = 1
                ring = 2
                read t3,1;f0; = 1
                ring = NONE
                """);
    }

    private static void ways() {
        Sheet.of("20: BAD: ROW, n; STATE: no BOARD (ahead of BAD); NULL; PLACE; 0: an ITEM is no PEG", """
                ways 0 0 0 = STATE
                ways 8 0 0 = STATE
                ways 0 0 13 = STATE
                read t3,1;p0;p0; = 2
                tell 0 0 0 3 0 -1 0 2
                ways -1 0 0 = BAD
                ways 8 0 0 = BAD
                ways 0 0 -1 = BAD
                ways 0 0 MIN = BAD
                ways 0 0 13 = BAD
                ways 0 0 MAX = BAD
                ways 1 0 0 = NULL
                ways 1 0 12 = NULL
                ways 0 -1 0 = PLACE
                ways 0 6 0 = PLACE
                ways 0 MIN 0 = PLACE
                ways 0 MAX 0 = PLACE
                ways 0 0 0 = 1
                ways 0 5 0 = 0                 # 0 2 is not as they are
                ways 0 1 2 = 0                 # 0 3
                ways 0 2 2 = 0                 # 3 0
                ways 0 3 2 = 0                 # 0 -1
                ways 0 4 2 = 0                 # -1 0
                ways 0 0 2 = 2
                read t4,1;p0;p0; = 2
                ways 0 2 1 = 1                 # 3 is a PEG now
                ways 0 0 12 = 3128403
                """);
    }

    private static void judge() {
        Sheet.of("21: BAD: ROW, n; STATE: no BOARD (ahead of BAD); NULL; PLACE", """
                judge 0 0 1 = STATE
                judge 8 0 1 = STATE
                judge 0 0 0 = STATE
                judge 0 0 17 = STATE
                read t3,1;p0; = 1
                tell 0 1 12 20 1 12 20 1 12 20 1 12 20 1 12 20 1 12 11
                judge -1 0 1 = BAD
                judge 8 0 1 = BAD
                judge 0 0 0 = BAD
                judge 0 0 MIN = BAD
                judge 0 0 17 = BAD
                judge 0 0 MAX = BAD
                judge 1 0 1 = NULL
                judge 1 0 16 = NULL
                judge 0 -1 1 = PLACE
                judge 0 MIN 1 = PLACE
                judge 0 MAX 16 = PLACE
                judge 0 0 1 = NONE
                judge 0 0 16 = NONE
                judge 0 2 16 = 0
                judge 0 3 16 = PLACE
                judge 0 17 1 = 0
                judge 0 18 1 = PLACE
                judge 0 15 2 = NONE
                judge 0 15 3 = 2               # counted from there on
                judge 0 15 4 = PLACE
                """);
    }

    private static void fits() {
        Sheet.of("22: BAD: DISC, ROW, n, what; NULL; PLACE", """
                fits 0 0 0 1 0 = BAD           # no BOARD, no DISC
                fits 0 0 0 1 2 = BAD
                read t3,1;p0;p0; = 2
                tell 0 1 12 20 1 12 20 1 12 20 1 12 20 1 12 20 1 12
                fits -1 0 0 1 0 = BAD
                fits 2 0 0 1 0 = BAD
                fits 2 0 0 1 2 = BAD           # of any DISC alike, but of one
                fits 0 -1 0 1 0 = BAD
                fits 0 8 0 1 0 = BAD
                fits 0 0 0 0 0 = BAD
                fits 0 0 0 17 0 = BAD
                fits 0 0 0 1 -1 = BAD
                fits 0 0 0 1 3 = BAD
                fits MIN MAX MIN MAX MIN = BAD
                fits 0 1 0 1 0 = NULL
                fits 0 0 -1 1 0 = PLACE
                fits 0 0 MIN 1 0 = PLACE
                fits 0 0 17 1 0 = PLACE
                fits 0 0 2 16 0 = PLACE
                fits 0 0 MAX 16 0 = PLACE
                fits 0 0 0 16 0 = 2
                fits 0 0 1 16 0 = 0
                fits 0 0 1 16 1 = 2
                fits 0 0 16 1 1 = 2
                fits 0 0 0 1 2 = 126
                fits 1 0 0 1 2 = 126
                """);
    }

    private static void chance() {
        Sheet.of("23: above (what = 0), below (1). BAD", """
                chance 0 0 0 0 = BAD           # no BOARD, no DISC
                read t3,1;p0;p1; = 2
                chance -1 0 0 0 = BAD
                chance 2 0 0 0 = BAD
                chance 0 -1 0 0 = BAD
                chance 0 3 0 0 = BAD
                chance 0 0 -1 0 = BAD
                chance 0 0 8 0 = BAD
                chance 0 0 0 -1 = BAD
                chance 0 0 0 2 = BAD
                chance MIN MAX MIN MAX = BAD
                chance 0 0 0 0 = 1
                chance 0 0 0 1 = 1
                chance 1 2 1 0 = 1
                chance 1 2 1 1 = 3
                chance 1 2 7 0 = 709
                chance 1 2 7 1 = 2187
                read t4,1;p3; = 1
                chance 0 3 0 0 = 1
                chance 0 4 0 0 = BAD
                """);
    }

    private static void drawn() {
        Sheet.of("24: a SEED (1 to 999999). BAD; STATE: no BOARD (ahead of BAD)", """
                drawn 0 1 0 = STATE
                drawn -1 1 0 = STATE
                drawn 0 0 0 = STATE
                drawn 0 1 2 = STATE
                read t3,1;p0; = 1
                drawn -1 1 0 = BAD
                drawn MIN 1 0 = BAD
                drawn 61 1 0 = BAD
                drawn MAX 1 0 = BAD
                drawn 0 0 0 = BAD
                drawn 0 -1 0 = BAD
                drawn 0 MIN 0 = BAD
                drawn 0 1000000 0 = BAD
                drawn 0 MAX 0 = BAD
                drawn 0 1 -1 = BAD
                drawn 0 1 2 = BAD
                drawn 0 1 0 = 0
                drawn 0 999999 0 = 0
                drawn 1 1 0 = 2                # 16807 by 2 leaves 1
                drawn 1 999999 0 = 1           # 1774597664 by 2 leaves 0
                drawn 60 1 1 = 60
                drawn 60 999999 1 = 60
                """);
    }

    private static void image() {
        Sheet.of("25: An IMAGE (0, 1). BAD; STATE: no BOARD", """
                image -1 = BAD
                image 2 = BAD
                image MIN = BAD
                image MAX = BAD
                image 0 = STATE
                image 1 = STATE
                restore 0 = STATE
                read t3,1;p0; = 1
                image -1 = BAD
                image 2 = BAD
                image 0 = 1
                restore 1 = STATE              # one is kept, not the other
                restore 0 = 1
                image 1 = 1
                restore 1 = 1
                """);
    }

    private static void restore() {
        Sheet.of("26: as an IMAGE kept it (no ACT can be undone then). BAD; STATE: none was kept", """
                restore -1 = BAD
                restore 2 = BAD
                restore MIN = BAD
                restore MAX = BAD
                restore 0 = STATE
                restore 1 = STATE
                read t4,2;g3;f1; = 2
                restore 0 = STATE
                restore 1 = STATE
                move 3 0 = 0
                image 1 = 1
                put 0 2 = 0
                high 6 = 2
                read t3,1;p2; = 1
                move 2 0 = 0
                restore 0 = STATE
                count 5 = 1
                restore 1 = 1
                count 1 = 4
                count 2 = 2
                count 3 = 1
                count 4 = 2
                count 5 = 0
                count 7 = 10
                kind 0 = 4
                kind 1 = 5
                undo = STATE
                move 1 2 = STATE               # MOVES is odd, as it was kept
                """);
    }

    private static void kind() {
        Sheet.of("27: as told (1 to 5). BAD", """
                kind 0 = BAD                   # no BOARD, no DISC
                read t3,1;p0;s0;h0;g0;f0; = 5
                kind -1 = BAD
                kind 0 = 1
                kind 1 = 2
                kind 2 = 3
                kind 3 = 4
                kind 4 = 5
                kind 5 = BAD
                kind MIN = BAD
                kind MAX = BAD
                read t3,1;p0;s0;h0;g0;f0;f0; = 6
                kind 5 = 5
                kind 6 = BAD
                """);
    }

    private static void as() {
        Sheet.of("28: one of a KIND (0 .. 5). BAD; KIND: it is no such one", """
                as 0 0 = BAD                   # no BOARD, no DISC
                read t3,1;p0;f0; = 2
                as -1 0 = BAD
                as 2 0 = BAD
                as MAX 0 = BAD
                as 0 -1 = BAD
                as 0 6 = BAD
                as 0 MIN = BAD
                as 0 0 = 0
                as 0 1 = 0
                as 0 2 = KIND
                as 0 5 = KIND
                as 1 0 = 1
                as 1 1 = KIND
                as 1 4 = 1
                as 1 5 = 1
                """);
    }

    private static void ask() {
        Sheet.of("29: An ASK (0, 1) of a DISC. BAD. THE TRACE is empty ahead of it", """
                ask 0 0 = BAD                  # no BOARD, no DISC
                read t3,1;h1;g2; = 2
                ask -1 0 = BAD
                ask 2 0 = BAD
                ask MIN 0 = BAD
                ask 0 -1 = BAD
                ask 0 2 = BAD
                ask 0 MAX = BAD
                trace 0 = NONE
                ask 0 0 = -998
                trace 4 = 20
                trace 5 = NONE
                ask 0 2 = BAD
                trace 4 = 20                   # what is refused changes nothing
                ask 1 0 = -99
                trace 1 = 10
                trace 2 = NONE
                ask 0 1 = -998
                trace 2 = 20
                trace 3 = NONE
                """);
    }

    private static void trace() {
        Sheet.of("30: Number i of THE TRACE; NONE", """
                trace 0 = NONE
                trace -1 = NONE
                trace MIN = NONE
                trace MAX = NONE
                read t3,1;g1; = 1
                trace 0 = NONE
                ask 0 0 = -100
                trace -1 = NONE
                trace 0 = 13
                trace 1 = 10
                trace 2 = NONE
                trace MIN = NONE
                trace MAX = NONE
                read t3,1;p0; = 1
                trace 1 = 10                   # of the latest ask yet
                """);
    }

    private static void count() {
        Sheet.of("31: what 0 to 7. BAD", """
                count -1 = BAD
                count MIN = BAD
                count 8 = BAD
                count MAX = BAD
                read t4,6;p3;p2; = 2
                row 0 0 0 = 0
                row 7 2 40 = 40
                move 3 1 = 0
                put 0 0 = 1
                put 1 3 = 2
                feed abcde
                count 0 = 2
                count 1 = 4
                count 2 = 2
                count 3 = 1
                count 4 = 6
                count 5 = 3
                count 6 = 5
                count 7 = 30
                count -1 = BAD
                count 8 = BAD
                """);
    }

    private static void statusOfRows() {
        Sheet.of("32: the number of its FINDING; 0: it had none, or there was none", """
                status = 0
                row 0 0 -1 = SIZE
                status = 4
                status = 4
                row 0 0 2 = 2
                status = 0
                set 1 0 0 = NULL
                status = 1
                set 0 0 0 = 0
                status = 0
                set 0 2 0 = PLACE
                status = 2
                copy 0 0 0 0 2 = 2
                status = 0
                copy 0 0 0 1 2 = PLACE
                status = 2
                copy 0 0 1 0 1 = NULL
                status = 1
                row 1 1 2 = 2
                copy 0 0 1 0 1 = STORE
                status = 5
                drop 1 = 2
                status = 0
                drop 1 = NULL
                status = 1
                """);
    }

    private static void statusOfForetold() {
        Sheet s = Sheet.of("32: of the latest call with a ROW, or as()", "read t3,1;p0; = 1", "tell 0 1 4");
        String[] well = {"least 0 0 -1 = 1", "least 0 1 -1 = NONE", "ways 0 0 1 = 1", "ways 0 1 1 = 0", "judge 0 0 1 = NONE",
            "judge 0 1 1 = 0", "fits 0 0 0 1 1 = 1", "fits 0 0 1 1 1 = 0", "as 0 1 = 0"};
        for (String call : well) {
            s.on("drop 7 = NULL", "status = 1", call, "status = 0");
        }
        String[] found = {"least 7 0 -1 = NULL", "least 0 2 -1 = PLACE", "ways 7 0 1 = NULL", "ways 0 2 1 = PLACE",
            "judge 7 0 1 = NULL", "judge 0 2 1 = PLACE", "fits 0 7 0 1 0 = NULL", "fits 0 0 2 1 0 = PLACE", "as 0 4 = KIND"};
        for (String call : found) {
            int number = call.endsWith("NULL") ? 1 : call.endsWith("PLACE") ? 2 : 3;
            s.on("set 0 0 1 = 1", "status = 0", call, "status = " + number);
        }
    }

    /** Each call that is BAD, STATE or FULL behind one that found something, and behind one that found nothing. */
    private static void statusOfRefused() {
        String[] refused = {"row 8 0 1 = BAD", "row 0 3 -1 = BAD", "set 8 0 0 = BAD", "copy 8 0 0 0 0 = BAD", "drop 8 = BAD",
            "least 0 0 -1 = STATE", "ways 0 0 0 = STATE", "judge 0 0 1 = STATE", "fits 0 0 0 1 0 = BAD", "as 0 0 = BAD"};
        Sheet s = Sheet.of("32: that was not BAD, STATE, FULL", "row 0 0 1 = 1");
        for (String call : refused) {
            s.on("set 0 1 0 = PLACE", call, "status = 2");
            s.on("set 0 0 0 = 0", call, "status = 0");
        }
        s.on("read t3,1;p0; = 1");
        for (String call : new String[] {"least 8 0 -1 = BAD", "least 0 0 -2 = BAD", "ways 0 0 13 = BAD", "judge 0 0 17 = BAD",
            "fits 0 0 0 17 0 = BAD", "fits 1 0 0 1 0 = BAD", "as 0 6 = BAD", "as 1 0 = BAD"}) {
            s.on("set 7 0 0 = NULL", call, "status = 1");
            s.on("set 0 0 0 = 0", call, "status = 0");
        }
        s.on("set 7 0 0 = NULL").times(60, "feed a").on("feed 97 = FULL", "status = 1");
    }
}
