import java.lang.reflect.InvocationTargetException;
import java.lang.reflect.Method;
import java.util.Arrays;
import java.util.Map;

/**
 * A run of calls on one new object, told as text: a line is a call and, behind '=', the answer that is due.
 * Each call is made on Plain too, so that what a line says is due was weighed twice.
 *
 * <pre>
 * row 0 2 40 = 40         a call with its numbers; MIN and MAX are the least and the greatest int
 * row 8 0 1 = BAD         answers that have a name in the document may be told by it
 * read t3,1; = FAULT5     feeds each byte of a text, then board(); FAULT5 is -1000100 less 5
 * feed t3,1;p             feeds each byte of a text
 * tell 0 2 1 21           row 0 becomes one of ints with these ITEMS
 * </pre>
 */
final class Sheet {
    /** Nothing is promised of an object after so many calls. */
    private static final int MOST_CALLS = 512;
    private static final Map<String, Integer> NAMES = Map.ofEntries(Map.entry("NONE", -1000000),
            Map.entry("BAD", -1000001), Map.entry("STATE", -1000002), Map.entry("FULL", -1000003),
            Map.entry("NULL", -1000011), Map.entry("PLACE", -1000012), Map.entry("KIND", -1000013),
            Map.entry("SIZE", -1000014), Map.entry("STORE", -1000015),
            Map.entry("MIN", Integer.MIN_VALUE), Map.entry("MAX", Integer.MAX_VALUE));

    private final String sentence;
    private final PegDiscs x = new PegDiscs();
    private final Plain y = new Plain();
    private int calls = 0;

    private Sheet(String sentence) {
        this.sentence = sentence;
    }

    /** A new object, on which the calls of these lines are made. */
    static Sheet of(String sentence, String... lines) {
        return new Sheet(sentence).on(lines);
    }

    /** The same object, more lines. */
    Sheet on(String... blocks) {
        for (String block : blocks) {
            for (String line : block.split("\n")) {
                String told = line.replaceAll("#.*", "").trim();
                if (!told.isEmpty()) {
                    take(told);
                }
            }
        }
        return this;
    }

    /** The same lines so many times. */
    Sheet times(int n, String... lines) {
        for (int k = 0; k < n; k++) {
            on(lines);
        }
        return this;
    }

    /** What a call answers, for a test that compares two objects. */
    long answer(String call) {
        String[] words = call.trim().split(" +");
        return called(words[0], numbers(Arrays.copyOfRange(words, 1, words.length)));
    }

    private void take(String told) {
        String[] sides = told.split("=");
        String[] words = sides[0].trim().split(" +");
        if (words[0].equals("read")) {
            feed(words.length > 1 ? words[1] : "");
            due("read " + sides[0].substring(4).trim(), called("board"), number(sides[1].trim()));
        } else if (words[0].equals("feed") && sides.length == 1) {
            feed(words[1]);
        } else if (words[0].equals("tell")) {
            tell(numbers(Arrays.copyOfRange(words, 1, words.length)));
        } else {
            due(sides[0].trim(), answer(sides[0]), number(sides[1].trim()));
        }
    }

    private void feed(String text) {
        for (int i = 0; i < text.length(); i++) {
            called("feed", text.charAt(i));
        }
    }

    private void tell(int[] words) {
        called("row", words[0], 2, words.length - 1);
        for (int i = 1; i < words.length; i++) {
            called("set", words[0], i - 1, words[i]);
        }
    }

    private void due(String call, long got, long want) {
        Check.due(sentence + ": call " + calls + ", " + call, got, want);
    }

    private long called(String name, int... with) {
        calls++;
        Check.holds(sentence + ": no more than 512 calls", calls <= MOST_CALLS);
        long got = invoke(PegDiscs.class, x, name, with);
        long plain = invoke(Plain.class, y, name, with);
        Check.due(sentence + ": call " + calls + ", " + name + Arrays.toString(with) + " of Plain too", plain, got);
        return got;
    }

    private static long invoke(Class<?> of, Object on, String name, int[] with) {
        Class<?>[] types = new Class<?>[with.length];
        Arrays.fill(types, int.class);
        try {
            Method m = of.getDeclaredMethod(name, types);
            return ((Number) m.invoke(on, Arrays.stream(with).boxed().toArray())).longValue();
        } catch (NoSuchMethodException | IllegalAccessException | InvocationTargetException e) {
            throw new IllegalStateException(name + Arrays.toString(with), e);
        }
    }

    private static int[] numbers(String[] words) {
        return Arrays.stream(words).mapToInt(w -> (int) number(w)).toArray();
    }

    private static long number(String word) {
        if (word.startsWith("FAULT")) {
            return -1000100 - Integer.parseInt(word.substring(5));
        }
        return NAMES.containsKey(word) ? NAMES.get(word) : Long.parseLong(word);
    }
}
