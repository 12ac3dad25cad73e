import java.util.ArrayList;
import java.util.List;

/**
 * "What is refused, or found, changes nothing but status()" and "FORETOLD (nothing changes)": of two objects with
 * the same calls behind them one is asked one call more; then both are looked at in every way there is.
 */
public final class NothingChangesTest {
    /** Three ROWS of three LANES, a FAULT, two IMAGES, ACTS, a TRACE, status() 2 and an unfinished tape. */
    private static final String[] MUCH = {"row 0 0 3 = 3", "set 0 0 1 = 1", "set 0 1 2 = 2", "set 0 2 3 = 3",
        "row 1 1 6 = 6", "set 1 0 3 = 3", "set 1 4 2 = 2", "tell 2 1 2 3 0 1 2 23 21", "read t9 = FAULT1",
        "read t4,1;p0; = 1", "image 1 = 1", "read t4,2;p0;s0;h1;g2;f3;p3; = 6", "move 0 2 = 0",
        "put 5 2 = 3", "high 4 = 2", "image 0 = 1", "move 2 3 = 0", "put 2 0 = 1", "ask 1 0 = -5", "set 2 8 0 = PLACE",
        "feed t3,1;p2"};
    /** ROWS and an unfinished tape, but no BOARD. */
    private static final String[] NO_BOARD = {"tell 0 1 2 3", "row 1 1 2 = 2", "read t2 = FAULT1", "row 2 2 -1 = SIZE",
        "feed t3,1;p2"};
    /** A tape of 60 bytes. */
    private static final String FULL_TAPE = "t3,1;p0;p0;p0;p0;p0;p0;".repeat(3).substring(0, 60);

    private static final String[] BAD = {"row -1 0 1", "row 8 0 1", "row 0 -1 1", "row 0 3 1", "row 0 0 41", "row 8 0 -1",
        "set -1 0 0", "set 8 0 0", "copy -1 0 0 0 1", "copy 8 0 0 0 1", "copy 0 0 -1 0 1", "copy 0 0 8 0 1", "drop -1",
        "drop 8", "feed -1", "feed 256", "move -1 0", "move 4 0", "move 0 -1", "move 0 4", "move 0 0", "put -1 0", "put 6 0",
        "put 0 -1", "put 0 4", "high 0", "high 7", "disc -1 0", "disc 6 0", "disc 0 -1", "disc 0 3", "peg -1 0", "peg 4 0",
        "peg 0 -1", "peg 0 3", "least -1 0 -1", "least 8 0 -1", "least 2 0 -2", "tower -1 -1", "tower 4 -1", "tower 0 -2",
        "world -1", "world 4", "ways -1 0 0", "ways 8 0 0", "ways 2 0 -1", "ways 2 0 13", "judge -1 0 1", "judge 8 0 1",
        "judge 2 0 0", "judge 2 0 17", "fits -1 2 0 1 0", "fits 6 2 0 1 0", "fits 0 -1 0 1 0", "fits 0 8 0 1 0",
        "fits 0 2 0 0 0", "fits 0 2 0 17 0", "fits 0 2 0 1 -1", "fits 0 2 0 1 3", "chance -1 0 0 0", "chance 6 0 0 0",
        "chance 0 -1 0 0", "chance 0 4 0 0", "chance 0 0 -1 0", "chance 0 0 8 0", "chance 0 0 0 -1", "chance 0 0 0 2",
        "drawn -1 1 0", "drawn 61 1 0", "drawn 0 0 0", "drawn 0 1000000 0", "drawn 0 1 -1", "drawn 0 1 2", "image -1",
        "image 2", "restore -1", "restore 2", "kind -1", "kind 6", "as -1 0", "as 6 0", "as 0 -1", "as 0 6", "ask -1 0",
        "ask 6 0", "ask 0 -1", "ask 0 2", "count -1", "count 8"};
    private static final String[] STATE = {"move 1 0", "move 2 3", "move 0 2", "move 0 3", "put 0 3", "put 5 2"};
    private static final String[] STATE_WITHOUT = {"high 1", "high 0", "undo", "can", "least 0 0 -1", "least 8 0 -2",
        "tower 0 -1", "tower 9 -1", "world 0", "world 4", "ring", "ways 0 0 0", "ways 8 0 0", "judge 0 0 1", "judge 8 0 0",
        "drawn 0 1 0", "drawn 0 0 0", "image 0", "image 1", "restore 0", "restore 1"};
    /** Each with the number of its FINDING. */
    private static final String[] FOUND = {"row 0 0 -1 4", "row 3 2 -1 4", "set 3 0 0 1", "set 0 -1 0 2", "set 0 3 0 2",
        "copy 3 0 0 0 1 1", "copy 0 0 3 0 1 1", "copy 0 0 1 0 1 5", "copy 1 0 1 1 6 2", "copy 1 0 1 0 -1 2",
        "copy 1 -1 1 0 1 2", "copy 1 0 1 -1 1 2", "drop 3 1", "least 3 0 -1 1", "least 2 3 -1 2", "least 2 -1 -1 2",
        "ways 3 0 0 1", "ways 2 3 0 2", "judge 3 0 1 1", "judge 2 8 1 2", "fits 0 3 0 1 0 1", "fits 0 2 7 2 0 2",
        "as 0 2 3", "as 3 5 3", "as 4 1 3"};
    /** Calls with a ROW, or as(), that are well: status() is 0 then. */
    private static final String[] WELL = {"least 2 0 -1", "least 2 0 0", "least 1 0 -1", "ways 2 0 12",
        "ways 2 2 0", "judge 2 6 2", "judge 2 0 8", "fits 0 2 6 2 0", "fits 0 2 6 2 1", "fits 5 2 6 2 1", "fits 0 2 6 2 2",
        "as 0 1", "as 4 4"};
    /** Calls that tell, and have no ROW. */
    private static final String[] TOLD = {"can", "tower 0 -1", "tower 2 5", "world 0", "world 1", "world 2", "world 3", "ring",
        "chance 0 0 0 0", "chance 0 1 7 0", "chance 4 1 7 1", "drawn 0 1 0", "drawn 60 9 0", "drawn 60 9 1", "disc 0 0",
        "disc 0 1", "disc 0 2", "peg 3 0", "peg 3 1", "peg 3 2", "kind 4", "trace 0", "trace -1", "trace 16", "fault",
        "status", "count 0", "count 7"};

    public static void main(String[] args) {
        for (String call : BAD) {
            looked("BAD", call, PegDiscs.BAD, MUCH);
        }
        for (String call : STATE) {
            looked("STATE", call, PegDiscs.STATE, MUCH);
        }
        for (String call : STATE_WITHOUT) {
            looked("STATE, no BOARD", call, PegDiscs.STATE, NO_BOARD);
        }
        looked("STATE, none was kept", "restore 1", PegDiscs.STATE, "read t3,1;p0; = 1", "image 0 = 1", "move 0 1 = 0");
        looked("STATE, no ACT", "undo", PegDiscs.STATE, "read t3,1;p0; = 1", "image 0 = 1");
        looked("FULL", "feed 112", PegDiscs.FULL, "tell 0 1 2", "feed " + FULL_TAPE);
        looked("BAD, a full tape", "feed 256", PegDiscs.BAD, "tell 0 1 2", "feed " + FULL_TAPE);
        found();
        told();
        Check.end("NothingChangesTest");
    }

    private static void found() {
        for (String with : FOUND) {
            int cut = with.lastIndexOf(' ');
            int number = Integer.parseInt(with.substring(cut + 1));
            looked("a FINDING", with.substring(0, cut), -1000010 - number, number, MUCH);
        }
    }

    private static void told() {
        for (String call : WELL) {
            Sheet asked = Sheet.of("nothing changes", MUCH);
            asked.answer(call);
            Check.due("status() behind " + call, asked.answer("status"), 0);
            dueSame("nothing changes", call, look(asked), look(Sheet.of("nothing changes", MUCH)));
        }
        for (String call : TOLD) {
            Sheet asked = Sheet.of("nothing changes", MUCH);
            asked.answer(call);
            Check.due("status() behind " + call, asked.answer("status"), 2);
            dueSame("nothing changes", call, look(asked), look(Sheet.of("nothing changes", MUCH)));
        }
    }

    /** A refusal, which leaves status() as it was, too. */
    private static void looked(String why, String call, long answer, String... before) {
        long status = Sheet.of(why, before).answer("status");
        looked(why, call, answer, status, before);
    }

    private static void looked(String why, String call, long answer, long status, String... before) {
        Sheet asked = Sheet.of(why, before);
        Check.due(why + ": " + call, asked.answer(call), answer);
        Check.due(why + ": status() behind " + call, asked.answer("status"), status);
        dueSame(why, call, look(asked), look(Sheet.of(why, before)));
    }

    private static void dueSame(String why, String call, List<String> seen, List<String> due) {
        Check.due(why + ": so much is seen behind " + call, seen.size(), due.size());
        for (int i = 0; i < seen.size() && i < due.size(); i++) {
            Check.holds(why + ": " + call + " changes nothing: " + seen.get(i) + ", due is " + due.get(i),
                    seen.get(i).equals(due.get(i)));
        }
    }

    /** All that can be seen of an object, but for status(): some of it is undone and dropped on the way. */
    private static List<String> look(Sheet s) {
        List<String> seen = new ArrayList<>();
        see(s, seen, "fault");
        see(s, seen, "trace", 7);
        seeBoard(s, seen);
        for (int left = 0; left < 7; left++) {
            see(s, seen, "undo");
            see(s, seen, "count 3", "count 4", "count 7", "count 5");
        }
        see(s, seen, "restore 0");
        seeBoard(s, seen);
        see(s, seen, "restore 1");
        seeBoard(s, seen);
        for (int row = 0; row < 4; row++) {
            seeItems(s, seen, row);
        }
        see(s, seen, "feed 59", "board", "fault", "count 1", "count 2", "count 7");
        return seen;
    }

    private static void seeBoard(Sheet s, List<String> seen) {
        see(s, seen, "count", 8);
        see(s, seen, "kind", 6);
        see(s, seen, "can", "ring");
    }

    /** ITEMS as the BOARD of IMAGE 1, one DISC on PEG 0 of four, lets them be seen; then the LANE and the length. */
    private static void seeItems(Sheet s, List<String> seen, int row) {
        for (int i = 0; i < 8; i++) {
            see(s, seen, "least " + row + " " + i + " -1", "least " + row + " " + i + " 0");
        }
        see(s, seen, "set " + row + " 0 98304", "drop " + row);
    }

    private static void see(Sheet s, List<String> seen, String call, int most) {
        for (int i = 0; i < most; i++) {
            see(s, seen, call + " " + i);
        }
    }

    private static void see(Sheet s, List<String> seen, String... calls) {
        for (String call : calls) {
            seen.add(call + " answers " + s.answer(call));
        }
    }
}
