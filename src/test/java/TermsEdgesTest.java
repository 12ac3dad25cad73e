/** 'Terms' of the document, sentence by sentence: each boundary that is named there, from both sides. */
public final class TermsEdgesTest {
    public static void main(String[] args) {
        fractions();
        badAheadOfState();
        badAheadOfFull();
        badAheadOfFindings();
        stateAheadOfFindings();
        stateAheadOfBadAsTold();
        noBoardNoDiscNoPeg();
        firstInTime();
        numbersOfFindings();
        rowsOfTheDocument();
        lanes();
        items();
        tape();
        plainMay();
        shortMay();
        heavyMay();
        glassMay();
        frailMay();
        codes();
        actsKept();
        actsOfEachSort();
        movesAndHigh();
        can();
        leastOfSeveral();
        leastByNone();
        leastOfFrail();
        worldAndFar();
        rings();
        deadEnds();
        waysOf();
        judgedOf();
        judgedOfEachNumber();
        sortsBeganHighs();
        chances();
        evenings();
        kinds();
        bodies();
        Check.end("TermsEdgesTest");
    }

    // ---- the opening lines

    private static void fractions() {
        Sheet.of("fractions in lowest terms (0 is 0 by 1)", """
                read t3,1;p0; = 1
                chance 0 1 0 0 = 0
                chance 0 1 0 1 = 1
                chance 0 0 1 0 = 0
                chance 0 0 1 1 = 1
                chance 0 0 0 0 = 1
                chance 0 0 0 1 = 1
                chance 0 0 2 0 = 1     # 2 of 4
                chance 0 0 2 1 = 2
                chance 0 1 2 0 = 1
                chance 0 1 2 1 = 4
                """);
    }

    private static void badAheadOfState() {
        Sheet.of("BAD ahead of STATE", """
                image 2 = BAD
                image 1 = STATE
                restore -1 = BAD
                restore 0 = STATE
                read t3,1;p0; = 1
                move 1 1 = BAD         # alike, and none lies there
                move 1 2 = STATE
                move 1 3 = BAD
                put 0 3 = BAD
                put 1 0 = BAD
                put 0 0 = STATE
                """);
    }

    private static void badAheadOfFull() {
        Sheet.of("BAD ahead of FULL").times(60, "feed a").on("""
                feed 256 = BAD
                feed 255 = FULL
                feed -1 = BAD
                feed 0 = FULL
                """);
    }

    private static void badAheadOfFindings() {
        Sheet.of("BAD ahead of FINDINGS", """
                row 8 0 -1 = BAD
                row 7 0 -1 = SIZE
                row 0 3 -1 = BAD
                row 0 2 -1 = SIZE
                set 8 0 0 = BAD
                set 7 0 0 = NULL
                copy 8 0 7 0 0 = BAD
                copy 7 0 8 0 0 = BAD
                copy 7 0 7 0 0 = NULL
                drop 8 = BAD
                drop 7 = NULL
                read t3,1;p0; = 1
                least 7 0 -2 = BAD
                least 7 0 -1 = NULL
                ways 7 0 13 = BAD
                ways 7 0 12 = NULL
                judge 7 0 17 = BAD
                judge 7 0 16 = NULL
                fits 1 7 0 16 2 = BAD
                fits 0 7 0 17 2 = BAD
                fits 0 7 0 16 3 = BAD
                fits 0 7 0 16 2 = NULL
                as 1 5 = BAD
                as 0 6 = BAD
                as 0 5 = KIND
                row 7 0 0 = 0
                least 7 0 -2 = BAD
                least 7 0 -1 = PLACE
                ways 7 0 -1 = BAD
                ways 7 0 0 = PLACE
                judge 7 0 0 = BAD
                judge 7 0 1 = PLACE
                fits 0 7 0 0 0 = BAD
                fits 0 7 0 1 0 = PLACE
                """);
    }

    private static void stateAheadOfFindings() {
        Sheet.of("STATE ahead of FINDINGS", """
                least 0 0 -1 = STATE
                ways 0 0 0 = STATE
                judge 0 0 1 = STATE
                row 1 0 0 = 0
                least 1 0 -1 = STATE
                ways 1 0 0 = STATE
                judge 1 0 1 = STATE
                read t3,1;p0; = 1
                least 0 0 -1 = NULL
                ways 0 0 0 = NULL
                judge 0 0 1 = NULL
                least 1 0 -1 = PLACE
                ways 1 0 0 = PLACE
                judge 1 0 1 = PLACE
                """);
    }

    /** The same calls without a BOARD and with one. */
    private static void stateAheadOfBadAsTold() {
        String[] calls = {"high 0", "high 7", "least 8 0 -1", "least -1 0 -1", "least 0 0 -2", "tower 3 -1", "tower -1 0",
            "tower 0 -2", "world -1", "world 4", "ways 8 0 0", "ways -1 0 0", "ways 0 0 13", "ways 0 0 -1", "judge 8 0 1",
            "judge -1 0 1", "judge 0 0 0", "judge 0 0 17", "drawn -1 1 0", "drawn 61 1 0", "drawn 0 0 0",
            "drawn 0 1000000 0", "drawn 0 1 -1", "drawn 0 1 2"};
        Sheet without = Sheet.of("no BOARD: STATE ahead of BAD");
        Sheet with = Sheet.of("BAD with a BOARD", "read t3,1;p0; = 1");
        for (String call : calls) {
            without.on(call + " = STATE");
            with.on(call + " = BAD");
        }
    }

    private static void noBoardNoDiscNoPeg() {
        Sheet.of("there is no such thing: BAD, where no STATE is told", """
                move 0 1 = BAD
                put 0 0 = BAD
                disc 0 0 = BAD
                peg 0 0 = BAD
                fits 0 0 0 1 0 = BAD
                chance 0 0 0 0 = BAD
                kind 0 = BAD
                as 0 0 = BAD
                ask 0 0 = BAD
                read t3,1;p0; = 1
                move 0 1 = 0
                put 0 0 = 1
                disc 0 0 = 0
                peg 0 0 = 1
                fits 0 0 0 1 0 = NULL
                chance 0 0 0 0 = 1
                kind 0 = 1
                as 0 0 = 0
                ask 0 0 = 1
                """);
    }

    private static void firstInTime() {
        Sheet.of("FINDINGS, of several the first in time", """
                set 0 -1 0 = NULL
                copy 0 -1 1 -1 -1 = NULL
                row 0 0 2 = 2
                set 0 -1 0 = PLACE
                copy 0 -1 1 -1 -1 = NULL
                copy 1 -1 0 -1 -1 = NULL
                row 1 1 2 = 2
                copy 0 -1 1 -1 -1 = STORE
                row 1 0 2 = 2
                copy 0 -1 1 -1 -1 = PLACE
                copy 0 0 1 0 2 = 2
                read t3,1;p0;p0;p0; = 3
                least 2 -1 -1 = NULL
                least 0 -1 -1 = PLACE
                ways 2 -1 0 = NULL
                ways 0 -1 0 = PLACE
                judge 2 -1 1 = NULL
                judge 0 -1 1 = PLACE
                fits 0 2 -1 1 0 = NULL
                fits 0 0 -1 1 0 = PLACE
                """);
    }

    private static void numbersOfFindings() {
        Sheet.of("-1000010 less 1 NULL, 2 PLACE, 3 KIND, 4 SIZE, 5 STORE", """
                drop 0 = -1000011
                status = 1
                row 0 0 1 = 1
                status = 0
                set 0 1 0 = -1000012
                status = 2
                read t3,1;p0; = 1
                as 0 2 = -1000013
                status = 3
                row 0 0 -1 = -1000014
                status = 4
                row 1 1 1 = 1
                copy 0 0 1 0 1 = -1000015
                status = 5
                """);
    }

    // ---- part 1

    private static void rowsOfTheDocument() {
        Sheet s = Sheet.of("ROWS 0 .. 7 are missing (at first)", "count 0 = 0");
        for (int r = 0; r < 8; r++) {
            s.on("drop " + r + " = NULL", "row " + r + " 0 1 = 1", "count 0 = " + (r + 1));
        }
        s.on("""
                row -1 0 1 = BAD
                row 8 0 1 = BAD
                set -1 0 1 = BAD
                set 0 0 1 = 1
                set 7 0 1 = 1
                set 8 0 1 = BAD
                copy -1 0 0 0 1 = BAD
                copy 0 0 7 0 1 = 1
                copy 7 0 0 0 1 = 1
                copy 8 0 0 0 1 = BAD
                copy 0 0 -1 0 1 = BAD
                copy 0 0 8 0 1 = BAD
                read t3,1;p0; = 1
                least -1 0 -1 = BAD
                least 0 0 -1 = 1
                least 7 0 -1 = 1
                least 8 0 -1 = BAD
                ways -1 0 1 = BAD
                ways 0 0 1 = 1
                ways 7 0 1 = 1
                ways 8 0 1 = BAD
                judge -1 0 1 = BAD
                judge 0 0 1 = NONE
                judge 7 0 1 = NONE
                judge 8 0 1 = BAD
                fits 0 -1 0 1 1 = BAD
                fits 0 0 0 1 1 = 1
                fits 0 7 0 1 1 = 1
                fits 0 8 0 1 1 = BAD
                drop -1 = BAD
                drop 0 = 1
                drop 7 = 1
                drop 8 = BAD
                count 0 = 6
                """);
    }

    private static void lanes() {
        Sheet.of("a LANE (0 bytes, 1 shorts, 2 ints)", """
                row 0 -1 1 = BAD
                row 0 3 1 = BAD
                count 0 = 0
                row 0 0 1 = 1
                row 1 1 1 = 1
                row 2 2 1 = 1
                """);
        Sheet.of("its lowest bits, as many as the LANE has: bytes", "row 0 0 1 = 1", """
                set 0 0 127 = 127
                set 0 0 128 = -128
                set 0 0 255 = -1
                set 0 0 256 = 0
                set 0 0 -128 = -128
                set 0 0 -129 = 127
                set 0 0 MIN = 0
                set 0 0 MAX = -1
                """);
        Sheet.of("its lowest bits, as many as the LANE has: shorts", "row 0 1 1 = 1", """
                set 0 0 32767 = 32767
                set 0 0 32768 = -32768
                set 0 0 65535 = -1
                set 0 0 65536 = 0
                set 0 0 -32768 = -32768
                set 0 0 -32769 = 32767
                set 0 0 MIN = 0
                set 0 0 MAX = -1
                """);
        Sheet.of("its lowest bits, as many as the LANE has: ints", "row 0 2 1 = 1", """
                set 0 0 65536 = 65536
                set 0 0 -65537 = -65537
                set 0 0 MIN = MIN
                set 0 0 MAX = MAX
                """);
        Sheet.of("what is kept is what set() answered", "read t3,1;p0; = 1", "row 0 0 1 = 1", """
                set 0 0 258 = 2
                least 0 0 0 = 2
                set 0 0 3 = 3
                least 0 0 0 = NONE
                """);
    }

    private static void items() {
        Sheet.of("0 to 40 ITEMS, 0 at first", """
                read t3,1;p0; = 1
                row 0 2 -1 = SIZE
                drop 0 = NULL
                row 0 2 0 = 0
                least 0 0 -1 = PLACE
                drop 0 = 0
                row 0 2 41 = BAD
                drop 0 = NULL
                row 0 2 40 = 40
                least 0 0 -1 = 0
                least 0 39 -1 = 0
                least 0 40 -1 = PLACE
                set 0 0 1 = 1
                set 0 39 1 = 1
                set 0 40 1 = PLACE
                least 0 0 -1 = 1
                least 0 39 -1 = 1
                row 0 2 40 = 40            # in place of what is there
                least 0 0 -1 = 0
                least 0 39 -1 = 0
                set 0 39 2 = 2
                drop 0 = 40
                row 0 2 40 = 40
                least 0 39 -1 = 0
                """);
    }

    private static void tape() {
        Sheet s = Sheet.of("THE TAPE has at most 60 bytes, that come one by one");
        for (int n = 1; n <= 60; n++) {
            s.on("feed 116 = " + n);
        }
        s.on("""
                feed 116 = FULL
                count 6 = 60
                board = FAULT1
                count 6 = 0
                feed 116 = 1
                """);
    }

    // ---- part 2

    private static void plainMay() {
        Sheet.of("the least DISC there goes over, if there is one", """
                read t3,1;p0;p0; = 2
                move 1 0 = STATE
                move 0 1 = 0
                move 0 2 = 1
                move 0 1 = STATE
                """);
        Sheet.of("a plain one, if none that is less lies there", """
                read t3,1;p0;p1;p1;p2; = 4
                move 1 0 = STATE
                move 2 0 = STATE
                move 2 1 = STATE
                move 0 1 = 0               # greater ones alone, however many
                move 2 0 = 3               # none
                """);
    }

    private static void shortMay() {
        Sheet.of("a short one, if so, and the PEGS are beside one another", """
                read t4,1;s1; = 1
                disc 0 2 = 5
                move 1 3 = STATE
                move 1 0 = 0
                disc 0 2 = 2
                move 0 2 = STATE
                move 0 3 = STATE
                move 0 1 = 0
                move 1 2 = 0
                disc 0 2 = 10
                move 2 0 = STATE
                move 2 3 = 0
                disc 0 2 = 4
                move 3 1 = STATE
                move 3 0 = STATE
                move 3 2 = 0
                read t3,1;p0;s1;p2; = 3
                move 1 0 = STATE           # beside, and a lesser one
                move 1 2 = 1               # beside, and a greater one
                """);
    }

    private static void heavyMay() {
        Sheet.of("a heavy one, if so, and the DISC of the next number does not lie there", """
                read t3,6;h0;p1;p2; = 3
                move 0 1 = STATE
                move 0 2 = 0
                read t3,6;h0;p1;p1; = 3
                move 0 1 = STATE           # the next one, and the one behind it
                move 0 2 = 0               # none
                read t4,6;p1;h0;p2;p3; = 4
                move 0 1 = STATE           # a lesser one
                move 0 2 = STATE
                move 0 3 = 1
                read t3,6;p0;p0;p0;p0;p0;h1; = 6
                move 1 2 = 5               # there is no next one
                """);
    }

    private static void glassMay() {
        Sheet.of("one of glass, if none that is less lies there, and fewer than HIGH DISCS do", """
                read t3,1;g0;p1; = 2
                move 0 1 = STATE
                move 0 2 = 0               # none, HIGH 1
                read t4,2;g0;p1;p1;p2; = 4
                move 0 1 = STATE           # two, HIGH 2
                move 0 2 = 0               # one
                read t4,2;g0;p1;p1;p1; = 4
                move 0 1 = STATE           # three, HIGH 2
                high 3 = 2
                move 0 1 = STATE
                high 4 = 3
                move 0 1 = 0
                read t3,5;g0;p1;p1;p1;p1;p1; = 6
                move 0 1 = STATE           # five, HIGH 5
                high 6 = 5
                move 0 1 = 0
                read t3,6;p1;g0; = 2
                move 0 1 = STATE           # a lesser one
                move 0 2 = 1
                """);
    }

    private static void frailMay() {
        Sheet.of("a frail one, if so, and MOVES is even", """
                read t3,2;f0;p1;p2;p2; = 4
                move 0 2 = STATE           # two, HIGH 2
                move 0 1 = 0               # one; MOVES is 0
                move 1 0 = STATE           # MOVES is 1
                move 2 0 = 2
                count 3 = 2
                move 1 2 = 0               # MOVES is 2
                move 2 1 = STATE           # MOVES is 3
                undo = 2
                move 1 2 = 0               # 2 again
                read t3,6;p1;f0; = 2
                move 0 1 = STATE           # a lesser one
                move 0 2 = 1
                """);
    }

    private static void codes() {
        Sheet.of("A CODE: PEGS of DISCS from the greatest on as figures of one number", """
                count 7 = 0
                read t3,1;p2; = 1
                count 7 = 2
                read t4,1;p0;p1;p2;p3; = 4
                count 7 = 3210
                read t4,1;p3;p0;p0;p0;p0;p0; = 6
                count 7 = 3
                read t4,1;p3;p3;p3;p3;p3;p3; = 6
                count 7 = 333333
                """);
    }

    private static void actsKept() {
        String round = "put 0 1 = 0\nput 0 2 = 1\nput 0 0 = 2";
        Sheet all = Sheet.of("ACTS (24 at most are kept)", "read t3,1;p0; = 1").times(8, round).on("count 5 = 24");
        for (int left = 23; left >= 0; left--) {
            all.on("undo = " + left, "disc 0 0 = " + left % 3);
        }
        all.on("undo = STATE", "disc 0 0 = 0");
        Sheet more = Sheet.of("ACTS, of more the oldest is forgotten", "read t3,1;p0; = 1").times(8, round)
                .on("count 5 = 24", "put 0 1 = 0", "count 5 = 24");
        for (int left = 23; left >= 0; left--) {
            more.on("undo = " + left, "disc 0 0 = " + (left + 1) % 3);
        }
        more.on("undo = STATE", "disc 0 0 = 1");
        more.on("put 0 0 = 1", "count 5 = 1", "undo = 0", "disc 0 0 = 1");
    }

    /** The boundary once more: MOVES and HIGH are ACTS as well. */
    private static void actsOfEachSort() {
        String round = "move 0 1 = 0\nhigh 2 = 1\nmove 1 0 = 0\nhigh 1 = 2";
        Sheet all = Sheet.of("24 MOVES and HIGHS", "read t3,1;p0; = 1").times(6, round).on("count 5 = 24");
        undoAll(all, 24);
        all.on("count 3 = 0", "count 4 = 1", "count 7 = 0");
        Sheet more = Sheet.of("25 MOVES and HIGHS", "read t3,1;p0; = 1").times(6, round).on("move 0 1 = 0", "count 5 = 24");
        undoAll(more, 24);
        more.on("count 3 = 1", "count 4 = 1", "count 7 = 1");
        Sheet most = Sheet.of("26 MOVES and HIGHS", "read t3,1;p0; = 1").times(6, round)
                .on("move 0 1 = 0", "high 2 = 1", "count 5 = 24");
        undoAll(most, 24);
        most.on("count 3 = 1", "count 4 = 2", "count 7 = 1");
    }

    private static void undoAll(Sheet s, int acts) {
        for (int left = acts - 1; left >= 0; left--) {
            s.on("undo = " + left);
        }
        s.on("undo = STATE");
    }

    private static void movesAndHigh() {
        Sheet.of("a MOVE (MOVES is 1 more); SET by hand (whatever it MAY; MOVES stays); HIGH is another", """
                read t3,1;f0;h0;p1; = 3
                move 0 2 = 0
                count 3 = 1
                put 0 0 = 2                # MOVES is odd
                put 1 1 = 0                # on the DISC of the next number
                put 2 0 = 1                # beneath a lesser one
                count 3 = 1
                high 6 = 1
                count 3 = 1
                count 4 = 6
                count 5 = 5
                undo = 4
                count 4 = 1
                undo = 3
                disc 2 0 = 1
                undo = 2
                disc 1 0 = 0
                undo = 1
                disc 0 0 = 2
                count 3 = 1
                undo = 0
                disc 0 0 = 0
                count 3 = 0
                undo = STATE
                """);
    }

    // ---- part 3

    private static void can() {
        Sheet.of("CAN: MOVES that may be (bits: 4 times from which, and to which)", """
                read t4,1;p3; = 1
                can = 28672                # bits 12, 13 and 14
                move 3 0 = 0
                can = 14                   # bits 1, 2 and 3
                read t3,1;f0; = 1
                can = 6
                move 0 1 = 0
                can = 0                    # none
                """);
    }

    private static void leastOfSeveral() {
        Sheet.of("LEAST: of several the first; how many; the k-th", """
                read t4,1;p0;p1; = 2
                tell 0 2 3 0 1
                least 0 0 -1 = 2
                least 0 0 0 = 2            # not 13 ahead of it
                least 0 0 1 = 13
                least 0 0 2 = NONE
                least 0 0 MAX = NONE
                least 0 2 -1 = 0           # as they are
                least 0 2 0 = NONE
                read t4,1;p0;p0; = 2
                tell 0 3 3
                least 0 0 -1 = 3
                least 0 0 0 = 1            # by PEG 1, not by PEG 2
                least 0 0 1 = 3
                least 0 0 2 = 13
                least 0 0 3 = NONE
                tower 3 -1 = 3
                tower 3 0 = 1
                tower 3 1 = 3
                tower 3 2 = 13
                tower 3 3 = NONE
                """);
    }

    private static void leastByNone() {
        Sheet.of("NONE: by none", """
                read t3,1;g0;p1; = 2
                tell 0 1 1 2 1
                least 0 0 -1 = NONE
                least 0 0 0 = NONE
                tower 1 -1 = NONE
                tower 1 0 = NONE
                least 0 2 -1 = 1           # by one
                high 2 = 1
                least 0 0 -1 = 1
                least 0 0 0 = 1
                tower 1 -1 = 1
                tower 1 0 = 1
                tower 0 -1 = 3
                """);
    }

    /** A frail one waits for an even number: the same ARRANGEMENT is come to by even numbers, by odd ones, or by both. */
    private static void leastOfFrail() {
        Sheet.of("LEAST, MOVES from now on", """
                read t3,3;f0;p1; = 2
                tell 0 1 1 2 2 0 0
                least 0 0 -1 = 1           # 1 1: by one, an odd number
                least 0 1 -1 = 4           # 1 2: the plain one steps aside and comes back
                least 0 1 0 = 2
                least 0 1 1 = 10
                least 0 1 2 = 21
                least 0 1 3 = 2
                least 0 2 -1 = 5           # 2 2
                least 0 4 -1 = 3           # 0 0
                move 1 2 = 1
                least 0 0 -1 = 2           # 1 1, MOVES is odd now
                least 0 1 -1 = 5           # 1 2
                least 0 2 -1 = 6           # 2 2
                least 0 4 -1 = 4           # 0 0
                put 1 1 = 2                # as at first, but for MOVES
                least 0 0 -1 = 6
                least 0 1 -1 = 2
                least 0 2 -1 = 2
                least 0 4 -1 = 4
                tower 1 -1 = 6
                undo = 1
                undo = 0
                least 0 0 -1 = 1
                tower 1 -1 = 1
                """);
    }

    private static void worldAndFar() {
        Sheet.of("WORLD (that one, too); FAR, of several that of the least CODE", """
                read t3,1;f0; = 1
                world 0 = 3
                world 1 = 1
                world 2 = 1                # of 1 and 2
                move 0 2 = 0
                world 0 = 1                # that one alone
                world 1 = 0
                world 2 = 2
                read t3,1;p1; = 1
                world 2 = 0                # of 0 and 2
                read t4,1;s0; = 1
                world 0 = 4
                world 1 = 3
                world 2 = 3
                read t3,1;p0;p0;p0; = 3
                world 0 = 27
                world 1 = 7
                world 2 = 100              # of those that are 7 MOVES away
                """);
        Sheet.of("WORLD of all that there are", "read t4,6;p0;p0;p0;p0;p0;p0; = 6", """
                world 0 = 4096
                world 3 = 0
                """);
    }

    private static void rings() {
        Sheet.of("RING: the fewest MOVES (1 on); NONE", """
                read t3,1;p0; = 1
                ring = 2
                read t3,1;f0; = 1
                ring = NONE
                read t3,6;h0;p0; = 2
                ring = NONE
                read t3,2;f0;p0; = 2
                ring = 7
                read t3,6;h0;p1; = 2
                ring = 2
                """);
    }

    private static void deadEnds() {
        Sheet.of("DEAD: as they are come to first (by fewest MOVES)", """
                read t3,1;p0; = 1
                world 3 = 0
                read t3,1;f0; = 1
                world 3 = 2
                move 0 1 = 0
                world 3 = 1                # that one, too
                read t3,3;f0;g0; = 2
                world 3 = 2                # a third one is dead only if come to later
                read t3,3;f1;g1;h2;s2; = 4
                world 3 = 7                # one of them is dead only if come to first
                """);
    }

    private static void waysOf() {
        Sheet.of("WAYS of n MOVES (0 to 12)", """
                read t3,1;p0; = 1
                tell 0 0 1
                ways 0 0 -1 = BAD
                ways 0 0 0 = 1
                ways 0 1 0 = 0
                ways 0 0 1 = 0
                ways 0 1 1 = 1
                ways 0 0 12 = 1366
                ways 0 1 12 = 1365
                ways 0 0 13 = BAD
                """);
    }

    private static void judgedOf() {
        Sheet.of("n ITEMS (1 to 16)", "read t3,1;p0; = 1", "tell 0 1 10 1 10 1 10 1 10 1 10 1 10 1 10 1 10 1", """
                judge 0 0 0 = BAD
                judge 0 0 1 = NONE
                judge 0 1 16 = 0
                judge 0 0 16 = NONE
                judge 0 0 17 = BAD
                fits 0 0 0 0 1 = BAD
                fits 0 0 0 1 1 = 1
                fits 0 0 0 16 1 = 1
                fits 0 0 1 16 1 = 2
                fits 0 0 0 17 1 = BAD
                set 0 15 11 = 11
                judge 0 0 15 = NONE
                judge 0 0 16 = 15
                """);
        Sheet three = Sheet.of("JUDGED: the first ITEM that is no MOVE (also if it is none at all)", "read t3,1;p0; = 1");
        for (String none : "0 3 4 9 11 20 22 30 33 40 99 100 101 -1 -10 -2 10 21 MIN MAX".split(" ")) {
            three.on("tell 0 2 21 " + none + " 1", "judge 0 0 2 = NONE");
            three.on("tell 0 " + none + " 1", "judge 0 0 2 = 0");
        }
        Sheet.of("JUDGED, four PEGS", """
                read t4,1;p0; = 1
                tell 0 3 30 3 31 12 22
                judge 0 0 5 = NONE
                judge 0 0 6 = 5
                tell 0 4
                judge 0 0 1 = 0
                """);
    }

    /** With DISCS on each PEG all numbers from far below the first MOVE to far above the last: those alone that CAN tells. */
    private static void judgedOfEachNumber() {
        for (int from = -200; from < 1300; from += 100) {
            Sheet s = Sheet.of("JUDGED (also if it is none at all)", "read t4,1;p3;p2;p0; = 3", "row 0 2 1 = 1");
            for (int told = from; told < from + 100; told++) {
                boolean may = told == 1 || told == 20 || told == 21 || told >= 30 && told <= 32;
                s.on("set 0 0 " + told + " = " + told, "judge 0 0 1 = " + (may ? "NONE" : "0"));
            }
        }
    }

    private static void sortsBeganHighs() {
        Sheet.of("SORTS: KINDS (bits 1 to 5); BEGAN: PEGS (bits); HIGHS (1 to 6, bits)", """
                read t4,1;p0;p3; = 2
                tell 0 1 12 31 41
                fits 0 0 0 1 0 = 62        # of each KIND
                fits 0 0 0 2 0 = 30        # but a frail one goes not twice
                fits 0 0 0 1 1 = 1         # from PEG 0
                fits 1 0 0 1 1 = 15        # DISC 1 may lie anywhere
                fits 0 0 0 1 2 = 126       # of each HIGH
                fits 0 0 3 1 0 = 0         # none at all
                fits 0 0 3 1 1 = 0
                fits 0 0 3 1 2 = 0
                read t3,1;g0;p1;p1;p1;p1;p1; = 6
                fits 0 0 0 1 2 = 64        # five lie there: HIGH 6 alone
                fits 0 0 0 1 0 = 6
                fits 5 0 0 1 1 = 0         # by no PEG: four lie there yet
                """);
    }

    private static void chances() {
        Sheet.of("CHANCE of n MOVES (0 to 7): each MOVE that may be alike likely", """
                read t4,1;p0; = 1
                chance 0 0 -1 0 = BAD
                chance 0 0 0 0 = 1
                chance 0 0 0 1 = 1
                chance 0 3 1 0 = 1
                chance 0 3 1 1 = 3
                chance 0 0 7 0 = 182
                chance 0 0 7 1 = 729
                chance 0 0 8 0 = BAD
                read t4,2;g0;g1;h3;s0; = 4
                chance 1 2 7 0 = 75927653963
                chance 1 2 7 1 = 279936000000
                """);
        Sheet.of("CHANCE (if there is none, all stays)", """
                read t3,1;f0; = 1
                chance 0 0 1 0 = 0
                chance 0 1 1 0 = 1
                chance 0 1 1 1 = 2
                chance 0 1 2 0 = 1         # one MOVE, then none for good
                chance 0 1 2 1 = 2
                chance 0 1 7 0 = 1
                chance 0 1 7 1 = 2
                move 0 1 = 0
                chance 0 1 1 0 = 1         # none at all
                chance 0 1 1 1 = 1
                chance 0 0 7 0 = 0
                chance 0 0 7 1 = 1
                """);
    }

    private static void evenings() {
        Sheet.of("EVENING of n (0 to 60) by a SEED", """
                read t4,1;p0; = 1
                drawn -1 1 0 = BAD
                drawn 0 1 0 = 0
                drawn 0 1 1 = 0
                drawn 1 1 1 = 1
                drawn 60 1 1 = 60
                drawn 61 1 0 = BAD
                drawn 1 1 0 = 2            # 16807 by 3 leaves 1
                drawn 1 2 0 = 3            # 33614 by 3 leaves 2
                drawn 1 3 0 = 1            # 50421 by 3 leaves 0
                """);
        Sheet.of("X becomes the rest of (X times 16807) by 2147483647", """
                read t4,1;p0; = 1
                drawn 1 127773 0 = 1       # 2147480811 is the rest as it is; by 3 it leaves 0
                drawn 1 127774 0 = 1       # 2147497618, the rest is 13971; by 3 it leaves 0, not 1
                drawn 1 999999 0 = 3       # 16806983193, the rest is 1774597664; by 3 it leaves 2, not 0
                """);
        Sheet.of("EVENING (none: all stays)", """
                read t3,1;f0; = 1
                drawn 1 1 0 = 2
                drawn 2 1 0 = 2
                drawn 60 1 0 = 2
                drawn 60 1 1 = 1
                move 0 1 = 0
                drawn 1 1 0 = 1
                drawn 60 1 0 = 1
                drawn 60 1 1 = 0
                """);
    }

    private static void kinds() {
        Sheet s = Sheet.of("0 DISC; 1 PLAIN, a DISC; 2 SHORT, a PLAIN; 3 HEAVY, a PLAIN; 4 GLASS, a DISC; 5 FRAIL, a GLASS",
                "read t3,1;p0;s0;h0;g0;f0; = 5");
        String[] is = {"01", "012", "013", "04", "045"};
        for (int disc = 0; disc < 5; disc++) {
            for (int kind = 0; kind < 6; kind++) {
                boolean such = is[disc].indexOf('0' + kind) >= 0;
                s.on("as " + disc + " " + kind + " = " + (such ? disc : "KIND"), "status = " + (such ? 0 : 3));
            }
        }
    }

    // ---- part 4

    /** The longest row of BODIES is six: no ask comes near the 16 that THE TRACE keeps. */
    private static void bodies() {
        Sheet.of("BODIES, each of which leaves its number in THE TRACE as it begins", "read t3,1;s1;f2; = 2", """
                trace 0 = NONE
                ask 0 0 = -4
                trace -1 = NONE
                trace 0 = 12
                trace 1 = 11
                trace 2 = 10
                trace 3 = 24
                trace 4 = 21
                trace 5 = 20
                trace 6 = NONE
                trace 15 = NONE
                trace 16 = NONE
                ask 1 1 = 200
                trace 0 = 23
                trace 1 = 20
                trace 2 = 14
                trace 3 = 13
                trace 4 = 10
                trace 5 = NONE             # empty ahead of it
                """);
        dueBodies("p", 0, 2, "11 10 21 20");
        dueBodies("p", 1, 2, "21 20");
        dueBodies("s", 0, -4, "12 11 10 24 21 20");
        dueBodies("s", 1, 4, "24 21 20");
        dueBodies("h", 0, -998, "11 10 22 21 20");
        dueBodies("h", 1, -998, "22 21 20");
        dueBodies("g", 0, -100, "13 10");
        dueBodies("g", 1, 101, "23 20 13 10");
        dueBodies("f", 0, -200, "14 13 10");
        dueBodies("f", 1, 201, "23 20 14 13 10");
    }

    /** Of DISC 0, the one DISC there is, on PEG 1. */
    private static void dueBodies(String sort, int what, int answer, String bodies) {
        Sheet s = Sheet.of("the BODY told for the KIND, else that of the nearest KIND that it is, too, else the one that is lent",
                "read t3,1;" + sort + "1; = 1", "ask 0 " + what + " = " + answer);
        String[] numbers = bodies.split(" ");
        for (int i = 0; i < numbers.length; i++) {
            s.on("trace " + i + " = " + numbers[i]);
        }
        s.on("trace " + numbers.length + " = NONE");
    }
}
