import java.io.IOException;
import java.lang.reflect.InvocationTargetException;
import java.lang.reflect.Method;
import java.nio.file.Files;
import java.nio.file.Path;
import java.util.List;
import java.util.Set;
import java.util.TreeSet;
import java.util.regex.Matcher;
import java.util.regex.Pattern;
import java.util.stream.Collectors;
import java.util.stream.Stream;

/** What README.md says is there: its calls give the answers that it names, and its files stand where it says. */
public final class ReadmeTest {
    private static final String TESTS = "src/test/java";

    private ReadmeTest() {
    }

    public static void main(String[] args) throws IOException {
        Path root = Path.of(args.length > 0 ? args[0] : ".");
        String readme = Files.readString(root.resolve("README.md"));
        example(readme);
        files(readme, root);
        tests(readme, root);
        edges(readme);
        Check.finish();
    }

    private static void fine(String what, boolean fine) {
        Check.same(what, fine ? 1 : 0, 1);
    }

    // ---- the calls that it shows

    private static void example(String readme) {
        Matcher block = Pattern.compile("(?s)```java\n(.*?)```").matcher(readme);
        int calls = 0;
        while (block.find()) {
            CellLoans x = new CellLoans();
            for (String line : block.group(1).split("\n")) {
                if (line.startsWith("x.")) {
                    call(x, line);
                    calls++;
                } else {
                    fine("a line that the test knows: " + line, line.isEmpty() || line.startsWith("// ")
                            || line.equals("CellLoans x = new CellLoans();"));
                }
            }
        }
        fine("calls were found: " + calls, calls > 10);
    }

    /** A line is a call, and a comment that begins with its answer or with the exception that it throws. */
    private static void call(CellLoans x, String line) {
        Matcher m = Pattern.compile("x\\.(\\w+)\\(([^)]*)\\); +// (throws \\w+|-?[0-9.]+)(:.*)?").matcher(line);
        if (!m.matches()) {
            fine("a call with its answer: " + line, false);
            return;
        }
        String[] given = m.group(2).isEmpty() ? new String[0] : m.group(2).split(", *");
        Object[] numbers = new Object[given.length];
        for (int i = 0; i < given.length; i++) {
            numbers[i] = Long.decode(given[i]).intValue();
        }
        Check.text(line, answer(x, m.group(1), numbers), m.group(3));
    }

    private static String answer(CellLoans x, String name, Object[] numbers) {
        for (Method m : CellLoans.class.getMethods()) {
            if (m.getName().equals(name) && m.getParameterCount() == numbers.length) {
                try {
                    return m.invoke(x, numbers).toString();
                } catch (InvocationTargetException e) {
                    return "throws " + e.getCause().getClass().getSimpleName();
                } catch (IllegalAccessException e) {
                    return "no answer";
                }
            }
        }
        return "no such method";
    }

    // ---- the files that it names

    private static void files(String readme, Path root) {
        Matcher named = Pattern.compile("`([.\\w]+(?:/[.\\w]+)+)`").matcher(readme);
        int found = 0;
        while (named.find()) {
            fine(named.group(1) + " is there", Files.exists(root.resolve(named.group(1))));
            found++;
        }
        fine("files were found: " + found, found > 4);
        fine(".ci/run can be run", Files.isExecutable(root.resolve(".ci/run")));
    }

    private static void tests(String readme, Path root) throws IOException {
        Set<String> listed = new TreeSet<>();
        Matcher row = Pattern.compile("(?m)^\\| `(\\w+)` \\|").matcher(readme);
        while (row.find()) {
            listed.add(row.group(1));
        }
        Set<String> there;
        try (Stream<Path> all = Files.list(root.resolve(TESTS))) {
            there = all.map(p -> p.getFileName().toString()).filter(n -> n.endsWith("Test.java"))
                    .map(n -> n.substring(0, n.length() - ".java".length()))
                    .collect(Collectors.toCollection(TreeSet::new));
        }
        Check.text("the tests of the table", listed.toString(), there.toString());
        Matcher name = Pattern.compile("`([A-Z]\\w*)(?:\\.java)?`").matcher(readme);
        while (name.find()) {
            boolean isTheClass = name.group(1).equals("CellLoans");
            boolean isException = name.group(1).endsWith("Exception");
            fine(name.group(1) + " is there",
                    isTheClass || isException || Files.exists(root.resolve(TESTS + "/" + name.group(1) + ".java")));
        }
    }

    // ---- where it says that the tests of edges stand

    private static void edges(String readme) {
        List<Class<?>> all = List.of(TextEdges.class, ScriptEdges.class, CellEdges.class, AskEdges.class, KeepEdges.class);
        for (Class<?> c : all) {
            Matcher said = Pattern.compile("`" + c.getSimpleName() + "`\\s+\\(([^)]*)\\)").matcher(readme);
            fine(c.getSimpleName() + " is told", said.find());
            Set<String> there = new TreeSet<>();
            for (Method m : c.getDeclaredMethods()) {
                if (m.getName().matches("(promise|term)[0-9]+[A-Z].*")) {
                    there.add(m.getName().replaceAll("^([a-z]+[0-9]+).*", "$1"));
                }
            }
            Check.text("what " + c.getSimpleName() + " tests", told(said.group(1)).toString(), there.toString());
        }
        Matcher method = Pattern.compile("`(promise[0-9]+\\w*)`").matcher(readme);
        fine("a test is named", method.find());
        fine(method.group(1) + " is there", all.stream().flatMap(c -> Stream.of(c.getDeclaredMethods()))
                .anyMatch(m -> m.getName().equals(method.group(1))));
    }

    /** The numbers of words as "terms 2 to 4, promises 1 to 4, 6". */
    private static Set<String> told(String words) {
        Set<String> numbers = new TreeSet<>();
        String kind = "";
        Matcher part = Pattern.compile("(promise|term)?s?\\s*([0-9]+)(?:\\s+to\\s+([0-9]+))?").matcher(words);
        while (part.find()) {
            kind = part.group(1) == null ? kind : part.group(1);
            int first = Integer.parseInt(part.group(2));
            int last = part.group(3) == null ? first : Integer.parseInt(part.group(3));
            for (int n = first; n <= last; n++) {
                numbers.add(kind + n);
            }
        }
        return numbers;
    }
}
