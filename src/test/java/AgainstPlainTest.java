import java.util.Random;

/** Runs of calls by draws (always the same ones): each answer of the class against that of Plain. */
public final class AgainstPlainTest {
    private static final int RUNS = 100;
    private static final int[] ODD_ONES = {Integer.MIN_VALUE, Integer.MAX_VALUE, -1000000, -2, 1000000, 255, 256, 61, 41};

    private static final String STRANGE = "t,;0123456789pshgfxz A\u00e9`{/:";

    private final Random draws;
    private final PegDiscs x = new PegDiscs();
    private final Plain y = new Plain();
    private final StringBuilder run = new StringBuilder();
    private int calls = 0;

    private AgainstPlainTest(int seed) {
        draws = new Random(seed);
    }

    public static void main(String[] args) {
        for (int seed = 1; seed <= RUNS; seed++) {
            if (!new AgainstPlainTest(seed).agrees()) {
                Check.holds("run " + seed + " agrees", false);
            } else {
                Check.holds("run " + seed + " agrees", true);
            }
        }
        Check.end("AgainstPlainTest");
    }

    private boolean agrees() {
        boolean small = draws.nextInt(3) > 0;
        while (calls < 512) {
            boolean good = draws.nextInt(40) == 0 || y.count(1) == 0 && draws.nextInt(4) == 0
                    ? readsText(text(small)) : oneCall(draws.nextInt(34));
            if (!good) {
                System.out.println(run);
                return false;
            }
        }
        return true;
    }

    private boolean readsText(String text) {
        for (int i = 0; i < text.length(); i++) {
            if (!same("feed", x.feed(text.charAt(i)), y.feed(text.charAt(i)), text.charAt(i))) {
                return false;
            }
        }
        return same("board", x.board(), y.board());
    }

    /** A text of a BOARD; each third one with something wrong in it, mostly. */
    private String text(boolean small) {
        StringBuilder s = new StringBuilder("t").append(3 + draws.nextInt(2)).append(',');
        s.append(draws.nextInt(9) == 0 ? "0" : "").append(1 + draws.nextInt(small ? 3 : 6)).append(';');
        int discs = 1 + draws.nextInt(small ? 3 : 6) + (draws.nextInt(12) == 0 ? 4 : 0);
        String sorts = draws.nextBoolean() ? "pshgf" : draws.nextBoolean() ? "hsf" : "ff";
        int tower = draws.nextInt(3);
        for (int d = 0; d < discs; d++) {
            s.append(sorts.charAt(draws.nextInt(sorts.length())));
            s.append(draws.nextBoolean() ? tower : draws.nextInt(3)).append(';');
        }
        if (draws.nextInt(3) == 0) {
            int at = draws.nextInt(s.length());
            char other = STRANGE.charAt(draws.nextInt(STRANGE.length()));
            switch (draws.nextInt(3)) {
                case 0 -> s.setCharAt(at, other);
                case 1 -> s.insert(at, other);
                default -> s.setLength(at);
            }
        }
        return s.toString();
    }

    /** A number that is mostly as told, at times one below or above, at times far from it. */
    private int near(int least, int most) {
        int luck = draws.nextInt(60);
        if (luck == 0) {
            return ODD_ONES[draws.nextInt(ODD_ONES.length)];
        }
        if (luck == 1) {
            return least - 1;
        }
        if (luck == 2) {
            return most + 1;
        }
        return least + draws.nextInt(most - least + 1);
    }

    private int aRow() {
        return draws.nextInt(12) == 0 ? near(0, 7) : draws.nextInt(3);
    }

    private int aPeg() {
        return near(0, Math.max(0, y.count(1) - 1));
    }

    private int aDisc() {
        return near(0, Math.max(0, y.count(2) - 1));
    }

    /** What an ITEM may be: a PEG, a MOVE, anything. */
    private int anItem() {
        int luck = draws.nextInt(4);
        return luck == 0 ? draws.nextInt() : luck == 1 ? 10 * draws.nextInt(4) + draws.nextInt(4) : draws.nextInt(3);
    }

    private boolean oneCall(int which) {
        return switch (which) {
            case 0, 1, 2, 3, 4, 5 -> rowCall(which);
            case 6, 7, 8, 9, 10, 11, 12, 13, 14 -> boardCall(which);
            case 15, 16, 17, 18, 19, 20, 21, 22, 23 -> foretoldCall(which);
            default -> otherCall(which);
        };
    }

    private boolean rowCall(int which) {
        int a = aRow();
        int b = aRow();
        int i = near(0, 9);
        int j = near(0, 9);
        int n = near(0, 12);
        int lane = near(0, 2);
        int v = anItem();
        return switch (which) {
            case 0 -> same("row", x.row(a, lane, n), y.row(a, lane, n), a, lane, n);
            case 1 -> same("copy", x.copy(a, i, b, j, n), y.copy(a, i, b, j, n), a, i, b, j, n);
            case 2 -> draws.nextInt(6) != 0 || same("drop", x.drop(a), y.drop(a), a);
            case 3 -> tellsMoves(a);
            default -> same("set", x.set(a, i, v), y.set(a, i, v), a, i, v);
        };
    }

    /** A book of MOVES that may be, mostly, found by playing and undoing it on Plain. */
    private boolean tellsMoves(int row) {
        int n = 1 + draws.nextInt(8);
        if (!same("row", x.row(row, 2, n), y.row(row, 2, n), row, 2, n)) {
            return false;
        }
        int made = 0;
        boolean good = true;
        int[] told = new int[n];
        Plain other = y;
        int room = 24 - other.count(5);
        for (int k = 0; k < n; k++) {
            told[k] = anItem();
            int may = other.can();
            if (may > 0 && made < room && draws.nextInt(12) != 0) {
                int bit = 0;
                do {
                    bit = draws.nextInt(16);
                } while ((may >> bit & 1) == 0);
                other.move(bit >> 2, bit & 3);
                made++;
                told[k] = 10 * (bit >> 2) + (bit & 3);
            }
        }
        for (int k = 0; k < made; k++) {
            other.undo();
        }
        for (int k = 0; k < n && good; k++) {
            good = same("set", x.set(row, k, told[k]), y.set(row, k, told[k]), row, k, told[k]);
        }
        for (int what = 0; what < 3 && good; what++) {
            int d = aDisc();
            good = same("fits", x.fits(d, row, 0, n, what), y.fits(d, row, 0, n, what), d, row, 0, n, what);
        }
        return good && same("judge", x.judge(row, 0, n), y.judge(row, 0, n), row, 0, n);
    }

    private boolean boardCall(int which) {
        int from = aPeg();
        int to = aPeg();
        int d = aDisc();
        int what = near(0, 2);
        int v = near(1, 6);
        int letter = near(0, 255);
        return switch (which) {
            case 6 -> draws.nextInt(9) != 0 || same("feed", x.feed(letter), y.feed(letter), letter);
            case 7 -> draws.nextInt(9) != 0 || same("board", x.board(), y.board());
            case 8 -> same("fault", x.fault(), y.fault());
            case 9 -> same("put", x.put(d, to), y.put(d, to), d, to);
            case 10 -> same("high", x.high(v), y.high(v), v);
            case 11 -> same("undo", x.undo(), y.undo());
            case 12 -> same("disc", x.disc(d, what), y.disc(d, what), d, what)
                    && same("peg", x.peg(to, what), y.peg(to, what), to, what);
            default -> same("move", x.move(from, to), y.move(from, to), from, to);
        };
    }

    private boolean foretoldCall(int which) {
        int row = aRow();
        int i = near(0, 3);
        int k = near(-1, 12);
        int p = aPeg();
        int d = aDisc();
        int n = near(0, 12);
        int what = near(0, 3);
        int seven = near(0, 7);
        boolean dear = y.count(2) > 4 && draws.nextInt(8) != 0;
        return dear || switch (which) {
            case 15 -> same("can", x.can(), y.can());
            case 16, 17 -> same("least", x.least(row, i, k), y.least(row, i, k), row, i, k);
            case 18 -> same("tower", x.tower(p, k), y.tower(p, k), p, k);
            case 19 -> same("world", x.world(what), y.world(what), what);
            case 20 -> same("ring", x.ring(), y.ring());
            case 21 -> same("ways", x.ways(row, i, n), y.ways(row, i, n), row, i, n);
            default -> same("chance", x.chance(d, p, seven, what), y.chance(d, p, seven, what), d, p, seven, what)
                    && same("chance", x.chance(d, p, seven, what & 1), y.chance(d, p, seven, what & 1), d, p, seven, what & 1);
        };
    }

    private boolean otherCall(int which) {
        int row = aRow();
        int i = near(0, 3);
        int n = near(1, 16);
        int d = aDisc();
        int k = near(0, 1);
        int what = near(0, 2);
        int sixty = near(0, 60);
        int seed = near(1, 999999);
        int sort = near(0, 5);
        return switch (which) {
            case 24 -> same("judge", x.judge(row, i, n), y.judge(row, i, n), row, i, n);
            case 25 -> same("fits", x.fits(d, row, i, n, what), y.fits(d, row, i, n, what), d, row, i, n, what);
            case 26 -> same("drawn", x.drawn(sixty, seed, k), y.drawn(sixty, seed, k), sixty, seed, k);
            case 27 -> same("image", x.image(k), y.image(k), k);
            case 28 -> draws.nextInt(3) != 0 || same("restore", x.restore(k), y.restore(k), k);
            case 29 -> same("kind", x.kind(d), y.kind(d), d);
            case 30 -> same("as", x.as(d, sort), y.as(d, sort), d, sort);
            case 31 -> same("ask", x.ask(d, k), y.ask(d, k), d, k) && samePicture();
            case 32 -> same("status", x.status(), y.status());
            default -> samePicture();
        };
    }

    /** Some of what can be seen beside the answers. */
    private boolean samePicture() {
        int what = near(0, 7);
        int i = near(0, 6);
        return same("count", x.count(what), y.count(what), what) && same("trace", x.trace(i), y.trace(i), i)
                && same("status", x.status(), y.status());
    }

    private boolean same(String name, long got, long want, int... with) {
        calls++;
        run.append(name).append(java.util.Arrays.toString(with)).append(" -> ").append(got).append('\n');
        if (got != want) {
            run.append("due is ").append(want).append('\n');
        }
        return got == want;
    }
}
