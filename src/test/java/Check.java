/** What the tests share: answers are compared and counted, and texts are fed. */
final class Check {
    private static int looked = 0;
    private static int wrong = 0;

    private Check() {
    }

    /** One answer against the one that is due. */
    static void due(String call, long got, long want) {
        looked++;
        if (got != want) {
            wrong++;
            System.out.println(call + " answered " + got + ", due is " + want);
        }
    }

    static void holds(String what, boolean so) {
        looked++;
        if (!so) {
            wrong++;
            System.out.println("does not hold: " + what);
        }
    }

    static void feed(PegDiscs x, String text) {
        for (int i = 0; i < text.length(); i++) {
            x.feed(text.charAt(i));
        }
    }

    /** A new object with a BOARD that is read of a text. */
    static PegDiscs on(String text) {
        PegDiscs x = new PegDiscs();
        feed(x, text);
        holds(text + " is read", x.board() > 0);
        return x;
    }

    /** A ROW of ints with these ITEMS. */
    static void tell(PegDiscs x, int row, int... items) {
        x.row(row, 2, items.length);
        for (int i = 0; i < items.length; i++) {
            x.set(row, i, items[i]);
        }
    }

    /** Ends the test: exit code 1 if an answer was not the one that is due. */
    static void end(String test) {
        System.out.println(test + ": " + looked + " looked at, " + wrong + " wrong");
        System.exit(wrong == 0 && looked > 0 ? 0 : 1);
    }
}
