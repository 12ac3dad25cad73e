import java.io.IOException;
import java.lang.reflect.Field;
import java.lang.reflect.Method;
import java.lang.reflect.Modifier;
import java.nio.file.Files;
import java.nio.file.Path;
import java.util.Arrays;
import java.util.Random;
import java.util.Set;
import java.util.TreeSet;
import java.util.regex.Matcher;
import java.util.regex.Pattern;

/** The face of the document, those rules of LANGUAGE.md that can be looked at, and that no call throws. */
public final class LanguageTest {
    private static final String[] FACE = {
        "int row(int,int,int)", "int set(int,int,int)", "int copy(int,int,int,int,int)", "int drop(int)",
        "int feed(int)", "int board()", "int fault()", "int move(int,int)", "int put(int,int)", "int high(int)",
        "int undo()", "int disc(int,int)", "int peg(int,int)", "int can()", "int least(int,int,int)",
        "int tower(int,int)", "int world(int)", "int ring()", "long ways(int,int,int)", "int judge(int,int,int)",
        "int fits(int,int,int,int,int)", "long chance(int,int,int,int)", "int drawn(int,int,int)", "int image(int)",
        "int restore(int)", "int kind(int)", "int as(int,int)", "int ask(int,int)", "int trace(int)", "int count(int)",
        "int status()"};
    private static final String[] FORBIDDEN = {"throw", "throws", "try", "catch", "finally", "synchronized", "assert",
        "native", "volatile", "transient", "yield", "goto", "protected", "package", "Object", "Exception", "System.out"};
    private static final int MOST_LINES = 60, MOST_PARAMETERS = 7, MOST_CLASSES = 12, MOST_FIELDS = 20;

    public static void main(String[] args) throws IOException {
        face();
        constants();
        classesInside();
        source();
        neverThrows();
        Check.end("LanguageTest");
    }

    private static void face() {
        Set<String> seen = new TreeSet<>();
        Set<String> names = new TreeSet<>();
        for (Method m : PegDiscs.class.getDeclaredMethods()) {
            if (!Modifier.isPrivate(m.getModifiers()) && !m.isSynthetic()) {
                String with = Arrays.toString(m.getParameterTypes()).replaceAll("[\\[\\] ]", "");
                seen.add(m.getReturnType() + " " + m.getName() + "(" + with + ")");
                names.add(m.getName());
                Check.holds(m + " is public", Modifier.isPublic(m.getModifiers()) && !Modifier.isStatic(m.getModifiers()));
            }
        }
        Check.holds("the methods are those of the document: " + seen, seen.equals(new TreeSet<>(Arrays.asList(FACE))));
        for (Method m : PegDiscs.class.getDeclaredMethods()) {
            Check.holds(m + " bears no public name", !Modifier.isPrivate(m.getModifiers()) || !names.contains(m.getName()));
        }
        int modifiers = PegDiscs.class.getModifiers();
        Check.holds("the class is public and final", Modifier.isPublic(modifiers) && Modifier.isFinal(modifiers));
        Check.holds("one constructor", PegDiscs.class.getDeclaredConstructors().length == 1
                && PegDiscs.class.getConstructors().length == 1);
    }

    private static void constants() {
        Set<String> seen = new TreeSet<>();
        for (Field f : PegDiscs.class.getDeclaredFields()) {
            if (!Modifier.isPrivate(f.getModifiers())) {
                seen.add(f.getName());
            }
            Check.holds(f + " is final if static", !Modifier.isStatic(f.getModifiers()) || Modifier.isFinal(f.getModifiers()));
        }
        Check.holds("the constants are those of the document", seen.equals(Set.of("NONE", "BAD", "STATE", "FULL")));
        Check.due("NONE", PegDiscs.NONE, -1000000);
        Check.due("BAD", PegDiscs.BAD, -1000001);
        Check.due("STATE", PegDiscs.STATE, -1000002);
        Check.due("FULL", PegDiscs.FULL, -1000003);
    }

    private static void classesInside() {
        Class<?>[] inside = PegDiscs.class.getDeclaredClasses();
        Check.holds("not too many classes", inside.length < MOST_CLASSES);
        for (Class<?> c : inside) {
            Check.holds(c + " is static", Modifier.isStatic(c.getModifiers()) && !Modifier.isPublic(c.getModifiers()));
        }
        for (Class<?> c : inside) {
            sizes(c);
            bearsNoPublicName(c);
        }
        sizes(PegDiscs.class);
    }

    private static void sizes(Class<?> c) {
        long fields = Arrays.stream(c.getDeclaredFields()).filter(f -> !Modifier.isStatic(f.getModifiers())).count();
        Check.holds(c + " has not too many fields", fields <= MOST_FIELDS);
        for (Method m : c.getDeclaredMethods()) {
            Check.holds(m + " has not too many parameters", m.getParameterCount() <= MOST_PARAMETERS);
        }
    }

    /** Rule 1, of the classes inside too: all is private, and no method bears the name of a public one. */
    private static void bearsNoPublicName(Class<?> inside) {
        String names = " " + String.join(" ", FACE).replaceAll("\\([^)]*\\)", "") + " ";
        for (Method m : inside.getDeclaredMethods()) {
            Check.holds(m + " is private", Modifier.isPrivate(m.getModifiers()));
            Check.holds(m + " bears no public name", !names.contains(" " + m.getName() + " "));
        }
        for (Field f : inside.getDeclaredFields()) {
            Check.holds(f + " is private", Modifier.isPrivate(f.getModifiers()));
        }
    }

    private static void source() throws IOException {
        String text = Files.readString(Path.of("src/main/java/PegDiscs.java"));
        Check.holds("signs 1 to 127 alone", text.chars().allMatch(c -> c > 0 && c < 128));
        String code = text.replaceAll("(?s)/\\*.*?\\*/", "").replaceAll("//[^\n]*", "");
        for (String word : FORBIDDEN) {
            Check.holds("no " + word, !Pattern.compile("\\b" + Pattern.quote(word) + "\\b").matcher(code).find());
        }
        Check.holds("no lambda, no method reference", !code.contains("->") && !code.contains("::"));
        Matcher imports = Pattern.compile("import ([^;]*);").matcher(code);
        while (imports.find()) {
            Check.due("import " + imports.group(1), imports.group(1).equals("java.util.Arrays") ? 1 : 0, 1);
        }
        Check.holds("no array of arrays", !code.contains("[][]"));
        int began = 0;
        String[] lines = text.split("\n");
        for (int i = 0; i < lines.length; i++) {
            if (lines[i].matches("( {4}| {8})(public|private) [^=;]*\\) \\{")) {
                began = i;
            }
            Check.holds("line " + (i + 1) + " ends a short method", !lines[i].matches("( {4}| {8})\\}") || began == 0
                    || i - began < MOST_LINES || lines[i].matches(" {4}\\}"));
            Check.holds("line " + (i + 1) + " is not too long", lines[i].length() <= 120);
        }
    }

    /** Numbers of all sizes in every place, in every state: an answer comes each time. */
    private static void neverThrows() {
        Random draws = new Random(5);
        String[] texts = {"", "t3,1;p0;", "t4,6;f0;h1;g2;s3;p0;f1;", "t3,2;f0;", "t4,1;p0;p0;p0;p0;p0;p0;"};
        for (String text : texts) {
            PegDiscs x = new PegDiscs();
            Check.feed(x, text);
            x.board();
            for (int n = 0; n < 400; n++) {
                wild(x, draws);
            }
            Check.holds("no call threw: " + text, true);
        }
    }

    private static int any(Random draws) {
        int[] some = {Integer.MIN_VALUE, Integer.MIN_VALUE + 1, -1, 0, 1, 2, 3, 5, 6, 7, 12, 16, 40, Integer.MAX_VALUE - 1,
            Integer.MAX_VALUE};
        return draws.nextInt(9) == 0 ? draws.nextInt() : some[draws.nextInt(some.length)];
    }

    private static void wild(PegDiscs x, Random draws) {
        int a = any(draws);
        int b = any(draws);
        int c = any(draws);
        int d = any(draws);
        int e = any(draws);
        x.row(a, b, c);
        x.set(a, b, c);
        x.copy(a, b, c, d, e);
        x.feed(a);
        x.fault();
        x.move(a, b);
        x.put(a, b);
        x.high(a);
        x.disc(a, b);
        x.peg(a, b);
        x.can();
        x.least(a, b, c);
        x.tower(a, b);
        x.world(a);
        x.ring();
        x.ways(a, b, c);
        x.judge(a, b, c);
        x.fits(a, b, c, d, e);
        x.chance(a, b, c, d);
        x.drawn(a, b, c);
        x.image(a);
        x.restore(b);
        x.kind(a);
        x.as(a, b);
        x.ask(a, b);
        x.trace(a);
        x.count(a);
        x.status();
        if (draws.nextInt(20) == 0) {
            x.drop(a);
            x.undo();
            x.board();
        }
    }
}
