/** TEXTS and FAULTS of the document: what stands on THE TAPE, byte by byte, and each boundary of a BOARD's law. */
public final class TextEdgesTest {
    private static final String GOOD = "t3,1;p0;";
    private static final String FIVE = "p0;p0;p0;p0;p0;", SIX = FIVE + "p0;";

    public static void main(String[] args) {
        eachByteAtEachPlace();
        eachByteBehindTheEnd();
        ends();
        lettersByThemselves();
        numbersOfTwoFigures();
        runsOfThreeFigures();
        pegs();
        high();
        pegOfDisc();
        sixDiscs();
        firstToken();
        leastOfOneToken();
        inPlaceOfTheOneBefore();
        allStays();
        Check.end("TextEdgesTest");
    }

    /** What is due of a text: that many DISCS; or, with a FAULT's number, its place. */
    private static void due(String sentence, String text, int place, int fault) {
        PegDiscs x = new PegDiscs();
        Check.feed(x, text);
        String call = sentence + ": " + text;
        Check.due(call, x.board(), fault == 0 ? place : -1000100 - place);
        Check.due(call + ", fault()", x.fault(), fault);
        Check.due(call + ", DISCS", x.count(2), fault == 0 ? place : 0);
    }

    private static void good(String sentence, String text, int discs) {
        due(sentence, text, discs, 0);
    }

    /** All 256 bytes in each of the eight places of a text that is good. */
    private static void eachByteAtEachPlace() {
        for (int letter = 0; letter < 256; letter++) {
            boolean figure = letter >= '0' && letter <= '9';
            for (int place = 0; place < GOOD.length(); place++) {
                String text = GOOD.substring(0, place) + (char) letter + GOOD.substring(place + 1);
                if (text.equals(GOOD)) {
                    good("as it was", text, 1);
                } else if (figure) {
                    figureAt(text, place, letter - '0');
                } else if (place == 5 && "pshgf".indexOf(letter) >= 0) {
                    good("SORT: p, s, h, g, f", text, 1);
                } else {
                    due("1 it cannot stand there, or is none", text, place, 1);
                }
            }
        }
    }

    private static void figureAt(String text, int place, int v) {
        switch (place) {
            case 0, 5 -> due("a NUMBER cannot stand there", text, place, 1);
            case 1 -> due("PEGS 3 or 4", text, 1, v == 4 ? 0 : 2);
            case 2 -> due("a run of three figures, at its first", text, 1, 1);
            case 3 -> due("HIGH 1 to 6", text, v >= 1 && v <= 6 ? 1 : 3, v >= 1 && v <= 6 ? 0 : 2);
            case 4 -> due("HIGH of two figures is more than 6", text, 3, 2);
            case 6 -> due("a PEG, of three", text, v < 3 ? 1 : 6, v < 3 ? 0 : 2);
            default -> due("a PEG of two figures, then the end", text, v < 3 ? 8 : 6, v < 3 ? 1 : 2);
        }
    }

    private static void eachByteBehindTheEnd() {
        for (int letter = 0; letter < 256; letter++) {
            boolean sort = "pshgf".indexOf(letter) >= 0;
            due("nothing else, no blanks", GOOD + (char) letter, sort ? 9 : 8, 1);
        }
    }

    private static void ends() {
        String text = "t3,6;p0;s1;";
        for (int n = 0; n <= text.length(); n++) {
            String cut = text.substring(0, n);
            if (n == 8 || n == 11) {
                good("law disc { disc }", cut, n == 8 ? 1 : 2);
            } else {
                due("the end: how many bytes there are", cut, n, 1);
            }
        }
    }

    private static void lettersByThemselves() {
        due("letters (each by itself)", "tt3,1;p0;", 1, 1);
        due("letters (each by itself)", "t3,1;ps0;", 6, 1);
        due("letters (each by itself)", "t3,1;p0;pp0;", 9, 1);
    }

    private static void numbersOfTwoFigures() {
        good("NUMBERS (figures, 2 at most)", "t3,1;p2;", 1);
        good("NUMBERS (figures, 2 at most)", "t03,01;p02;", 1);
        good("NUMBERS (figures, 2 at most)", "t04,06;p03;p00;", 2);
        due("NUMBERS (figures, 2 at most)", "t003,1;p2;", 1, 1);
        due("NUMBERS (figures, 2 at most)", "t3,001;p2;", 3, 1);
        due("NUMBERS (figures, 2 at most)", "t3,1;p002;", 6, 1);
        due("NUMBERS (figures, 2 at most)", "t03,06;p00;p000;", 12, 1);
    }

    private static void runsOfThreeFigures() {
        for (String run : new String[] {"333", "0003", "33333", "000000000003"}) {
            due("a run of three figures, at its first", "t" + run + ",1;p0;", 1, 1);
            due("a run of three figures, at its first", "t3," + run + ";p0;", 3, 1);
            due("a run of three figures, at its first", "t3,1;p" + run + ";", 6, 1);
            due("a run of three figures, at its first", "t3,1;p0;" + run + ";", 8, 1);
            due("a run of three figures, at its first", "t3,1;" + SIX + run, 23, 1);
            due("a run of three figures, at its first", run, 0, 1);
            due("a run of three figures, and the end", "t3,1;p" + run, 6, 1);
        }
    }

    private static void pegs() {
        for (int pegs = 0; pegs < 100; pegs++) {
            boolean told = pegs == 3 || pegs == 4;
            due("PEGS 3 or 4", "t" + pegs + ",1;p0;", 1, told ? 0 : 2);
        }
        for (int pegs = 3; pegs <= 4; pegs++) {
            PegDiscs x = Check.on("t" + pegs + ",1;p0;");
            Check.due("PEGS 0, 1, ..: " + pegs, x.count(1), pegs);
            Check.due("PEGS 0, 1, ..: the last of " + pegs, x.peg(pegs - 1, 0), 0);
            Check.due("PEGS 0, 1, ..: behind the last of " + pegs, x.peg(pegs, 0), PegDiscs.BAD);
        }
    }

    private static void high() {
        for (int high = 0; high < 100; high++) {
            boolean told = high >= 1 && high <= 6;
            due("HIGH 1 to 6", "t3," + high + ";p0;", told ? 1 : 3, told ? 0 : 2);
            if (told) {
                Check.due("HIGH 1 to 6", Check.on("t3," + high + ";p0;").count(4), high);
            }
        }
    }

    private static void pegOfDisc() {
        for (int pegs = 3; pegs <= 4; pegs++) {
            for (int peg = 0; peg < 100; peg++) {
                boolean told = peg < pegs;
                due("disc: SORT PEG", "t" + pegs + ",1;p0;g" + peg + ";", told ? 2 : 9, told ? 0 : 2);
                if (told) {
                    Check.due("disc: SORT PEG", Check.on("t" + pegs + ",1;p0;g" + peg + ";").disc(1, 0), peg);
                }
            }
        }
    }

    private static void sixDiscs() {
        good("DISCS 0 .. 5, 6 at most", "t3,1;" + FIVE, 5);
        good("DISCS 0 .. 5, 6 at most", "t3,1;" + SIX, 6);
        for (String sort : "p s h g f".split(" ")) {
            due("3 a disc more than there is room for (its letter)", "t3,1;" + SIX + sort + "0;", 23, 3);
            due("3 a disc more than there is room for (its letter)", "t3,1;" + SIX + sort, 23, 3);
            good("there is room for it", "t3,1;" + FIVE + sort + "0;", 6);
        }
        due("3 a disc more, its letter", "t03,01;" + "p00;".repeat(6) + "p00;", 31, 3);
        due("3 a disc more, of a full tape", "t3,1;" + "p0;".repeat(18) + "p", 23, 3);
    }

    private static void firstToken() {
        due("the first TOKEN that has one", "x5,7;x9", 0, 1);
        due("the first TOKEN that has one", "t5,7;x9", 1, 2);
        due("the first TOKEN that has one", "t3;7;x9", 2, 1);
        due("the first TOKEN that has one", "t3,7;x9", 3, 2);
        due("the first TOKEN that has one", "t3,6,x9", 4, 1);
        due("the first TOKEN that has one", "t3,6;x9", 5, 1);
        due("the first TOKEN that has one", "t3,6;p9", 6, 2);
        due("the first TOKEN that has one", "t3,6;p2", 7, 1);
        due("the first TOKEN that has one", "t3,1;" + FIVE + "p3;p0;", 21, 2);
        due("the first TOKEN that has one", "t3,1;" + FIVE + "p0,p0;", 22, 1);
        due("the first TOKEN that has one", "t3,1;" + SIX + "p0;x", 23, 3);
        due("(its first byte)", "t05,1;p0;", 1, 2);
        due("(its first byte)", "t3,07;p0;", 3, 2);
        due("(its first byte)", "t3,1;p03;", 6, 2);
        due("(its first byte)", "t04,06;p03;p04;", 12, 2);
    }

    private static void leastOfOneToken() {
        due("of one TOKEN the least: no TOKEN, and not as told", "t999,1;p0;", 1, 1);
        due("of one TOKEN the least: cannot stand there, and not as told", "t3,1;99;", 5, 1);
        due("of one TOKEN the least: cannot stand there, and no room", "t3,1;" + SIX + "x0;", 23, 1);
        due("of one TOKEN the least: cannot stand there, and no room", "t3,1;" + SIX + "0;", 23, 1);
        due("of one TOKEN the least: cannot stand there, and no room", "t3,1;" + SIX + ";", 23, 1);
        due("of one TOKEN the least: none, and no room", "t3,1;" + SIX + " ", 23, 1);
    }

    private static void inPlaceOfTheOneBefore() {
        Sheet.of("A BOARD that is read stands in place of the one before (none at first)", """
                count 1 = 0
                can = STATE
                read t4,5;g3;f3; = 2
                move 3 0 = 0
                high 6 = 5
                put 1 1 = 3
                count 3 = 1
                count 5 = 3
                drawn 60 1 1 = 51          # what is foretold is not what is
                read t3,2;h1; = 1
                count 1 = 3
                count 2 = 1
                count 3 = 0                # MOVES is 0
                count 4 = 2
                count 5 = 0
                count 7 = 1
                undo = STATE               # no ACT can be undone
                kind 0 = 3
                kind 1 = BAD
                peg 2 0 = 0
                peg 3 0 = BAD
                """);
    }

    private static void allStays() {
        Sheet.of("The tape, empty then, is read; of a FAULT all stays", """
                read t4,5;g3;f3; = 2
                move 3 0 = 0
                read t3,1;p0;p0;p3; = FAULT12
                fault = 2
                count 1 = 4
                count 2 = 2
                count 3 = 1
                count 4 = 5
                count 5 = 1
                count 6 = 0                # the tape is empty then, too
                count 7 = 30
                kind 0 = 4
                kind 1 = 5
                undo = 0
                count 7 = 33
                read t3,1;p0; = 1          # what was on the tape is gone
                """);
    }
}
