import java.io.IOException;
import java.lang.reflect.Field;
import java.lang.reflect.Method;
import java.lang.reflect.Modifier;
import java.nio.file.Files;
import java.nio.file.Path;
import java.util.ArrayList;
import java.util.List;
import java.util.Set;
import java.util.TreeSet;
import java.util.regex.Matcher;
import java.util.regex.Pattern;
import java.util.stream.Stream;
import javax.tools.JavaCompiler;
import javax.tools.ToolProvider;

/**
 * What README.md shows: its Java is compiled as it stands there, and each call must answer what the comment
 * behind it says; each call of the face is shown; each test of the project is named.
 */
public final class ReadmeTest {
    private static final int MOST_CALLS = 512;
    private static final String MAKING = "PegDiscs x = new PegDiscs();";
    private static final Pattern SHOWN = Pattern.compile("((?:x\\.|tell\\(x, ).*\\)); +// (-?[0-9]+|[A-Z]+): .+");

    /** A call with the answer that README.md says, and its line. */
    private record Call(int line, String text, long due) {
    }

    private final List<Call> calls = new ArrayList<>();
    private final StringBuilder members = new StringBuilder();
    private final StringBuilder statements = new StringBuilder();

    public static void main(String[] args) throws IOException, ReflectiveOperationException {
        List<String> lines = Files.readAllLines(Path.of("README.md"));
        ReadmeTest shown = new ReadmeTest();
        shown.take(lines);
        shown.answersAsSaid("PegDiscs");
        // The second writing of the document must agree, so that README.md does not say what only the class does.
        shown.answersAsSaid("Plain");
        shown.showsTheFace();
        shown.keepsToItsCalls();
        constantsAsSaid(String.join("\n", lines));
        testsAreNamed(lines);
        Check.end("ReadmeTest");
    }

    private void take(List<String> lines) throws ReflectiveOperationException {
        boolean inside = false;
        boolean member = false;
        for (int i = 0; i < lines.size(); i++) {
            String line = lines.get(i);
            if (line.startsWith("```")) {
                inside = line.equals("```java");
                member = inside && i + 1 < lines.size() && lines.get(i + 1).startsWith("static ");
            } else if (inside && member) {
                members.append(line).append('\n');
            } else if (inside) {
                takeStatement(i + 1, line);
            }
        }
    }

    private void takeStatement(int number, String line) throws ReflectiveOperationException {
        Matcher m = SHOWN.matcher(line);
        if (m.matches()) {
            calls.add(new Call(number, m.group(1), valueOf(m.group(2))));
            statements.append("answers.add((long) ").append(m.group(1)).append(");\n");
        } else {
            Check.holds("line " + number + " of README.md makes the object or says an answer: " + line,
                    line.equals(MAKING) || line.isEmpty());
            statements.append(line).append('\n');
        }
    }

    private static long valueOf(String said) throws ReflectiveOperationException {
        return said.matches("[A-Z]+") ? PegDiscs.class.getField(said).getInt(null) : Long.parseLong(said);
    }

    /** Compiles what is shown, with another class in PegDiscs' place if told so, beside the tests, and runs it. */
    private void answersAsSaid(String of) throws IOException, ReflectiveOperationException {
        String name = "ShownOn" + of;
        String source = "final class " + name + " {\n" + members
                + "static void run(java.util.List<Long> answers) {\n" + statements + "}\n}\n";
        Path beside = Path.of(System.getProperty("java.class.path"));
        Path file = beside.resolve(name + ".java");
        Files.writeString(file, source.replace("PegDiscs ", of + " ").replace("PegDiscs(", of + "("));
        JavaCompiler javac = ToolProvider.getSystemJavaCompiler();
        int code = javac.run(null, null, null, "-cp", beside.toString(), "-d", beside.toString(), file.toString());
        Check.due("what README.md shows is compiled: exit code", code, 0);
        if (code != 0) {
            return;
        }
        List<Long> answers = new ArrayList<>();
        Method run = Class.forName(name).getDeclaredMethod("run", List.class);
        run.invoke(null, answers);
        Check.due("answers of " + of, answers.size(), calls.size());
        for (int i = 0; i < calls.size() && i < answers.size(); i++) {
            Call call = calls.get(i);
            Check.due("line " + call.line() + " of README.md, " + of + ": " + call.text(), answers.get(i), call.due());
        }
    }

    private void showsTheFace() {
        Set<String> shown = new TreeSet<>();
        for (Call call : calls) {
            shown.add(call.text().replaceAll("(?s)^x\\.|\\(.*", ""));
        }
        for (Method m : PegDiscs.class.getDeclaredMethods()) {
            if (Modifier.isPublic(m.getModifiers())) {
                Check.holds("README.md shows " + m.getName(), shown.contains(m.getName()));
            }
        }
    }

    /** Nothing is promised behind the 512th call, so README.md may not show one. */
    private void keepsToItsCalls() {
        int made = 0;
        for (Call call : calls) {
            Matcher text = Pattern.compile("\"(.*)\"").matcher(call.text());
            made += text.find() ? text.group(1).length() + 1 : 1;
        }
        Check.holds("README.md shows no more than 512 calls: " + made, made > 0 && made <= MOST_CALLS);
    }

    private static void constantsAsSaid(String readme) throws ReflectiveOperationException {
        Set<String> said = new TreeSet<>();
        Matcher m = Pattern.compile("`([A-Z]+)` \\((-[0-9]+)\\)").matcher(readme);
        while (m.find()) {
            said.add(m.group(1));
            Check.due("README.md: " + m.group(1), Long.parseLong(m.group(2)), valueOf(m.group(1)));
        }
        for (Field f : PegDiscs.class.getFields()) {
            Check.holds("README.md says what " + f.getName() + " is", said.contains(f.getName()));
        }
    }

    private static void testsAreNamed(List<String> lines) throws IOException {
        Set<String> named = new TreeSet<>();
        for (String line : lines) {
            Matcher m = Pattern.compile("\\| ([A-Za-z]+Test) \\| .+ \\|").matcher(line);
            if (m.matches()) {
                named.add(m.group(1) + ".java");
            }
        }
        Set<String> there = new TreeSet<>();
        try (Stream<Path> files = Files.list(Path.of("src/test/java"))) {
            files.map(f -> f.getFileName().toString()).filter(f -> f.endsWith("Test.java")).forEach(there::add);
        }
        Check.holds("README.md names the tests that there are: " + named + ", " + there, named.equals(there));
        Check.holds("README.md says how the tests are run", lines.contains(".ci/run")
                && Files.isExecutable(Path.of(".ci/run")));
    }
}
