import java.io.IOException;
import java.lang.reflect.Method;
import java.lang.reflect.Modifier;
import java.net.URL;
import java.net.URLClassLoader;
import java.nio.file.Files;
import java.nio.file.Path;
import java.util.ArrayList;
import java.util.List;
import java.util.regex.Matcher;
import java.util.regex.Pattern;
import java.util.stream.Stream;
import javax.tools.ToolProvider;

/**
 * What README.md shows of the use of the class is what the class answers: its Java is compiled
 * and run as it stands there, and its tables are tried.
 */
public final class ReadmeTest {
    private static final Due DUE = new Due("ReadmeTest");
    private static final Path PAGE = Path.of("README.md");
    private static final Path TESTS = Path.of("src/test/java");
    private static final Pattern BLOCK = Pattern.compile("(?s)\n```java\n(.*?)\n```\n");
    private static final String NEW_BENCH = "ValueBench bench = new ValueBench();";
    // A call, perhaps one whose answer gets a name, and the answer behind it.
    private static final Pattern CALL = Pattern.compile(
            "(int (\\w+) = )?(bench\\.\\w+\\([^;]*\\)); +// (-?\\d+|true|false)(: .+)?");
    private static final int MOST_CALLS = 512;

    private record Shown(String call, String answer) {
    }

    public static void main(String[] args) throws IOException, ReflectiveOperationException {
        String page = Files.readString(PAGE);
        List<String> blocks = new ArrayList<>();
        for (Matcher m = BLOCK.matcher(page); m.find();) {
            blocks.add(m.group(1));
        }
        DUE.is("README.md has Java", blocks.isEmpty(), false);
        runAll(blocks);
        everyCallIsShown(String.join("\n", blocks));
        kinds(page);
        ends(page);
        howToTest(page);
        DUE.end();
    }

    private static void runAll(List<String> blocks)
            throws IOException, ReflectiveOperationException {
        Path made = Files.createTempDirectory("readme");
        try {
            for (int n = 0; n < blocks.size(); n++) {
                runBlock(blocks.get(n), "Shown" + n, made);
            }
        } finally {
            try (Stream<Path> files = Files.list(made)) {
                files.forEach(file -> file.toFile().delete());
            }
            Files.delete(made);
        }
    }

    private static void runBlock(String block, String name, Path made)
            throws IOException, ReflectiveOperationException {
        List<Shown> shown = new ArrayList<>();
        StringBuilder code = new StringBuilder("public final class " + name + " {\n"
                + "public static java.util.List<Object> answers() {\n"
                + "java.util.List<Object> answers = new java.util.ArrayList<>();\n");
        for (String line : block.split("\n")) {
            Matcher m = CALL.matcher(line);
            if (m.matches()) {
                shown.add(new Shown(m.group(3), m.group(4)));
                boolean named = m.group(1) != null;
                code.append(named ? m.group(1) + m.group(3) + ";\n" : "");
                code.append("answers.add(" + (named ? m.group(2) : m.group(3)) + ");\n");
            } else {
                // A call without an answer could not be held against the class.
                DUE.is("a line that shows no answer: " + line, line.isEmpty()
                        || line.startsWith("//") || line.equals(NEW_BENCH), true);
                code.append(line).append('\n');
            }
        }
        DUE.is("calls of one object", shown.size() <= MOST_CALLS, true);
        List<?> got = compiledAnswers(code.append("return answers;\n}\n}\n"), name, made);
        DUE.is("answers of a block", got.size(), shown.size());
        for (int i = 0; i < got.size(); i++) {
            String answer = String.valueOf(got.get(i));
            DUE.is("is " + shown.get(i).call + " = " + shown.get(i).answer + " as README.md shows"
                    + " (it is " + answer + ")?", answer.equals(shown.get(i).answer), true);
        }
    }

    private static List<?> compiledAnswers(CharSequence code, String name, Path made)
            throws IOException, ReflectiveOperationException {
        Path file = Files.writeString(made.resolve(name + ".java"), code);
        int failed = ToolProvider.getSystemJavaCompiler().run(null, null, null, "-proc:none",
                "-cp", System.getProperty("java.class.path"), "-d", made.toString(),
                file.toString());
        DUE.is("what javac says of " + name, failed, 0);
        if (failed != 0) {
            return List.of();
        }
        try (URLClassLoader loader = new URLClassLoader(new URL[] {made.toUri().toURL()})) {
            return (List<?>) loader.loadClass(name).getMethod("answers").invoke(null);
        }
    }

    private static void everyCallIsShown(String shown) {
        for (Method method : ValueBench.class.getDeclaredMethods()) {
            if (Modifier.isPublic(method.getModifiers())) {
                DUE.is(method.getName() + " is shown",
                        shown.contains("bench." + method.getName() + "("), true);
            }
        }
    }

    /** The cells of the table's rows, those of its head not among them. */
    private static List<String[]> table(String page, String head) {
        List<String[]> rows = new ArrayList<>();
        int start = page.indexOf(head);
        DUE.is("README.md has a table " + head, start >= 0, true);
        String[] lines = page.substring(Math.max(0, start)).split("\n");
        for (int i = 2; i < lines.length && lines[i].startsWith("|"); i++) {
            String[] cells = lines[i].split("\\|");
            for (int c = 0; c < cells.length; c++) {
                cells[c] = cells[c].trim();
            }
            rows.add(cells);
        }
        return rows;
    }

    private static void kinds(String page) {
        List<String[]> rows = table(page, "| kind | name | arguments |");
        DUE.is("kinds", rows.size(), 15);
        for (int kind = 0; kind < rows.size(); kind++) {
            String[] cells = rows.get(kind);
            DUE.is("kind " + kind, Integer.parseInt(cells[1]), kind);
            String[] arguments = cells[3].split(" ");
            for (int place = 0; place < 3; place++) {
                String letter = place < arguments.length ? arguments[place] : "free";
                tryPut(kind, place, letter);
            }
            DUE.is("kind " + kind + " has an example", cells.length > 4 && !cells[4].isEmpty(),
                    arguments.length == 3);
            if (arguments.length == 3) {
                tryKind(kind, Integer.parseInt(cells[4]));
            }
        }
    }

    private static int greatest(String letter) {
        switch (letter) {
            case "x": case "y": case "z":
                return 9;
            case "k":
                return 3;
            case "b": case "c":
                return 15;
            default:
                return Integer.MAX_VALUE;
        }
    }

    /** Numbers below, at and above the bounds of an argument. */
    private static int[] around(String letter) {
        int most = greatest(letter);
        return new int[] {Integer.MIN_VALUE, -1, 0, most - 1, most, most + 1};
    }

    private static boolean isGood(String letter, int number) {
        int most = greatest(letter);
        return most == Integer.MAX_VALUE || number >= 0 && number <= most;
    }

    private static void tryPut(int kind, int place, String letter) {
        for (int number : around(letter)) {
            int[] abc = new int[3];
            abc[place] = number;
            ValueBench bench = new ValueBench();
            bench.block();
            DUE.is("put of kind " + kind + ", argument " + place + " being " + number,
                    bench.put(0, kind, abc[0], abc[1], abc[2]), isGood(letter, number) ? 1 : -1);
        }
    }

    private static void tryKind(int kind, int due) {
        ValueBench bench = new ValueBench();
        bench.block();
        bench.put(0, 0, 1, 7, 0);
        bench.put(0, 0, 2, 2, 0);
        bench.put(0, kind, 0, 1, 2);
        for (int form = 0; form <= 2; form++) {
            bench.run(form, 0, 0, 0, 0);
            DUE.is("kind " + kind + " of 7 and 2", bench.ran(0), due);
        }
    }

    private static void ends(String page) {
        List<String[]> rows = table(page, "| how | name | arguments |");
        DUE.is("ENDS", rows.size(), 3);
        for (int how = 0; how < rows.size(); how++) {
            String[] cells = rows.get(how);
            DUE.is("how " + how, Integer.parseInt(cells[1]), how);
            List<String> arguments = List.of(cells[3].split(" "));
            String[] letters = {"y", "b", "c"};
            for (int place = 0; place < 3; place++) {
                boolean has = arguments.contains(letters[place]);
                tryEnds(how, place, has ? letters[place] : "free");
            }
        }
    }

    private static void tryEnds(int how, int place, String letter) {
        for (int number : around(letter)) {
            int[] ybc = new int[3];
            ybc[place] = number;
            ValueBench bench = new ValueBench();
            bench.block();
            DUE.is("ends of how " + how + ", argument " + place + " being " + number,
                    bench.ends(0, how, ybc[0], ybc[1], ybc[2]), isGood(letter, number));
        }
    }

    private static void howToTest(String page) throws IOException {
        DUE.is("README.md shows .ci/run", page.contains("\n```sh\n.ci/run\n```\n"), true);
        DUE.is(".ci/run can be run", Files.isExecutable(Path.of(".ci/run")), true);
        try (Stream<Path> files = Files.list(TESTS)) {
            for (Path file : files.sorted().toList()) {
                String name = file.getFileName().toString().replace(".java", "");
                DUE.is("README.md tells of " + name, page.contains("`" + name + "`"), true);
            }
        }
    }
}
