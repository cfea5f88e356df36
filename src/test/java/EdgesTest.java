import java.util.Set;
import java.util.TreeSet;

/** Runs the tests of all edges, each named by its promise or its term, and looks that none of these is without. */
public final class EdgesTest {
    private static final int PROMISES = 35;
    private static final int TERMS = 6;

    private EdgesTest() {
    }

    public static void main(String[] args) {
        Set<String> numbers = new TreeSet<>();
        Class<?>[] all = {TextEdges.class, ScriptEdges.class, CellEdges.class, AskEdges.class, KeepEdges.class};
        for (Class<?> tests : all) {
            numbers.addAll(Check.runNamed(tests));
        }
        for (int p = 1; p <= PROMISES; p++) {
            Check.same("tests of promise " + p, numbers.contains("promise" + p) ? 1 : 0, 1);
        }
        for (int t = 1; t <= TERMS; t++) {
            Check.same("tests of term " + t, numbers.contains("term" + t) ? 1 : 0, 1);
        }
        Check.finish();
    }
}
