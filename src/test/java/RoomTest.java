import com.sun.management.ThreadMXBean;
import java.lang.management.ManagementFactory;
import java.lang.reflect.Array;
import java.lang.reflect.Field;
import java.lang.reflect.Modifier;
import java.util.ArrayList;
import java.util.Collections;
import java.util.IdentityHashMap;
import java.util.List;
import java.util.Set;

/** LANGUAGE.md, rule 12: what an object holds, and that no call makes more but for an exception. */
public final class RoomTest {
    private static final int MOST_OBJECTS = 400;
    private static final int MOST_ELEMENTS = 60_000;
    private static final int ROUNDS = 8;

    /** All answers together, so that no call can be left out as useless. */
    private static double answers = 0;
    private static int calls = 0;

    private RoomTest() {
    }

    public static void main(String[] args) throws IllegalAccessException {
        CellLoans x = new CellLoans();
        held("a new object", x);
        busy(x);
        held("a busy object", x);
        nothingMade();
        Check.finish();
    }

    private static void held(String what, CellLoans x) throws IllegalAccessException {
        Set<Object> seen = Collections.newSetFromMap(new IdentityHashMap<>());
        List<Object> open = new ArrayList<>();
        open.add(x);
        seen.add(x);
        long elements = 0;
        while (!open.isEmpty()) {
            Object o = open.remove(open.size() - 1);
            elements += o.getClass().isArray() ? elementsOf(o, seen, open) : fieldsOf(o, seen, open);
        }
        Check.same(what + " has few objects: " + seen.size(), seen.size() <= MOST_OBJECTS ? 1 : 0, 1);
        Check.same(what + " has few elements: " + elements, elements <= MOST_ELEMENTS ? 1 : 0, 1);
    }

    private static int elementsOf(Object array, Set<Object> seen, List<Object> open) {
        int length = Array.getLength(array);
        for (int i = 0; i < length && !array.getClass().getComponentType().isPrimitive(); i++) {
            see(Array.get(array, i), seen, open);
        }
        return length;
    }

    private static int fieldsOf(Object o, Set<Object> seen, List<Object> open) throws IllegalAccessException {
        int count = 0;
        for (Field f : o.getClass().getDeclaredFields()) {
            if (!Modifier.isStatic(f.getModifiers())) {
                count++;
                f.setAccessible(true);
                if (!f.getType().isPrimitive()) {
                    see(f.get(o), seen, open);
                }
            }
        }
        return count;
    }

    private static void see(Object o, Set<Object> seen, List<Object> open) {
        if (o != null && seen.add(o)) {
            open.add(o);
        }
    }

    private static void nothingMade() {
        ThreadMXBean threads = (ThreadMXBean) ManagementFactory.getThreadMXBean();
        // What the Java machine itself makes when code runs for the first time does not count.
        busy(new CellLoans());
        threads.getCurrentThreadAllocatedBytes();
        CellLoans x = new CellLoans();
        calls = 0;
        long before = threads.getCurrentThreadAllocatedBytes();
        busy(x);
        long made = threads.getCurrentThreadAllocatedBytes() - before;
        Check.same("calls are enough, and not too many: " + calls, calls > 400 && calls <= 512 ? 1 : 0, 1);
        System.out.println(calls + " calls made " + made + " bytes");
        Check.same(made + " bytes are less than a byte a call", made < calls ? 1 : 0, 1);
    }

    private static void answer(double answered) {
        answers += answered;
        calls++;
    }

    /** An answer that shows that the run goes the way that it should. */
    private static void due(String what, int answered, int due) {
        Check.same(what, answered, due);
        answer(answered);
    }

    /** Each call of the face several times, none of them refused. */
    private static void busy(CellLoans x) {
        for (int round = 0; round < ROUNDS; round++) {
            text(x);
            changes(x);
            questions(x);
            ahead(x);
            script(x);
            keeping(x);
        }
    }

    private static void text(CellLoans x) {
        // port a 40 1;port b 20 2 first 5;port c 0 3;term 9;
        answer(x.feed(0x706f7274, 0x20612034, 0x3020313b, 0x706f7274, 0x20622032));
        answer(x.feed(0x30203220, 0x66697273, 0x7420353b, 0x706f7274, 0x20632030));
        answer(x.feed(0x20333b74, 0x65726d20, 0x393b2020, 0x20202020, 0x20202020));
        answer(x.truncate(51));
        answer(x.readText());
        answer(x.errorCode());
        answer(x.errorPosition());
        due("ports", x.setting(0), 3);
    }

    private static void changes(CellLoans x) {
        answer(x.setKeep(50));
        due("cells borrowed", x.arrive(2, 10), 10);
        answer(x.arrive(2, 9));
        answer(x.setTerm(3));
        answer(x.arrive(2, 1));
        answer(x.extend(0));
        due("cells borrowed by a port that calls in", x.arrive(0, 30), 0);
        due("a packet that is too large", x.arrive(0, 40), -2);
        answer(x.tick(1));
        answer(x.giveBack(2, 0, 1));
    }

    private static void questions(CellLoans x) {
        for (int what = 0; what < 4; what++) {
            answer(x.setting(what + 8));
            answer(x.port(0, what));
            answer(x.promise(0, what));
            answer(x.drop(0, what));
        }
        answer(x.packet(0, 0, 0));
        answer(x.owed(0, 2));
        answer(x.dropsBy(1));
        answer(x.mostCharged());
        answer(x.lossShare());
        answer(x.meanForecast());
    }

    private static void ahead(CellLoans x) {
        answer(x.wouldBorrow(1, 20));
        answer(x.wouldCall(0, 5));
        answer(x.wouldDrop(0, 5));
        answer(x.greatest(1));
        answer(x.dropsIn(200));
        answer(x.emptyIn());
        answer(x.sentIn(0, 0));
    }

    private static void script(CellLoans x) {
        // repeat 9(arrive b 2;tick 1;);
        answer(x.feed(0x72657065, 0x61742039, 0x28617272, 0x69766520, 0x6220323b));
        answer(x.feed(0x7469636b, 0x20313b29, 0x3b202020, 0x20202020, 0x20202020));
        due("commands done", x.runScript(), 18);
    }

    private static void keeping(CellLoans x) {
        answer(x.save());
        answer(x.undo());
        answer(x.report());
        answer(x.reportByte(0));
        answer(x.restore());
    }
}
