import java.util.function.Consumer;
import java.util.function.Supplier;

/**
 * Two objects that were made alike: one of them gets a call that must change nothing;
 * then all that can be seen of both, now and later, must be the same.
 */
final class Twins {
    private Twins() {
    }

    /** Has some of everything: packets, promises, drops, calls to undo, a saved switch, a report, an error, a buffer. */
    static CellLoans rich() {
        CellLoans x = Sheet.made("port a 9 1 first 2; port b 4 2; port c 0 1; term 3; keep 50;");
        x.setTerm(5);
        x.arrive(2, 5);
        x.tick(1);
        x.save();
        x.arrive(1, 3);
        x.report();
        x.arrive(0, 4);
        x.arrive(0, 40);
        x.arrive(2, 1);
        Sheet.feed(x, "port a 41");
        Check.refused("a text with an error", IllegalArgumentException.class, () -> x.readText());
        Sheet.feed(x, "tick 1; arrive c 2;");
        return x;
    }

    static void refused(String what, Class<? extends RuntimeException> due, Consumer<CellLoans> call) {
        refused(what, due, Twins::rich, call);
    }

    static void refused(String what, Class<? extends RuntimeException> due, Supplier<CellLoans> maker,
            Consumer<CellLoans> call) {
        CellLoans x = maker.get();
        Check.refused(what, due, () -> call.accept(x));
        alike(what, x, maker.get());
    }

    static void unchanged(String what, Consumer<CellLoans> call) {
        unchanged(what, Twins::rich, call);
    }

    static void unchanged(String what, Supplier<CellLoans> maker, Consumer<CellLoans> call) {
        CellLoans x = maker.get();
        call.accept(x);
        alike(what, x, maker.get());
    }

    static void alike(String what, CellLoans x, CellLoans twin) {
        Check.text("what is seen behind " + what, seen(x), seen(twin));
        Check.text("what comes behind " + what, later(x), later(twin));
    }

    /** All that can be asked without a change. */
    static String seen(CellLoans x) {
        StringBuilder s = new StringBuilder();
        switchOf(x, s);
        for (int i = 0; i < 25 && x.drop(i, 0) != CellLoans.NONE; i++) {
            s.append("\ndrop");
            for (int what = 0; what < 5; what++) {
                s.append(' ').append(x.drop(i, what));
            }
        }
        s.append("\nreasons ").append(x.dropsBy(1)).append(' ').append(x.dropsBy(2)).append(' ').append(x.dropsBy(3));
        s.append("\nmost ").append(x.mostCharged()).append(", loss ").append(x.lossShare());
        s.append(", mean ").append(x.meanForecast());
        s.append("\nerror ").append(x.errorCode()).append(" at ").append(x.errorPosition()).append("\nreport ");
        reportOf(x, s);
        return s.toString();
    }

    private static void switchOf(CellLoans x, StringBuilder s) {
        settingsOf(x, s);
        for (int p = 0; p < x.setting(0); p++) {
            s.append("\nport");
            for (int what = 0; what <= 12; what++) {
                s.append(' ').append(x.port(p, what));
            }
            for (int i = 0; i < x.port(p, 9); i++) {
                s.append(", packet ").append(x.packet(p, i, 0)).append(' ').append(x.packet(p, i, 1));
                s.append(' ').append(x.packet(p, i, 2));
            }
        }
        for (int i = 0; i < x.setting(8); i++) {
            s.append("\npromise");
            for (int what = 0; what < 4; what++) {
                s.append(' ').append(x.promise(i, what));
            }
        }
    }

    private static void settingsOf(CellLoans x, StringBuilder s) {
        s.append("settings");
        for (int what = 0; what <= 11; what++) {
            s.append(' ').append(x.setting(what));
        }
    }

    /** The latest report as it stands, without writing another one. */
    private static void reportOf(CellLoans x, StringBuilder s) {
        try {
            for (int i = 0; i < 60; i++) {
                s.append((char) x.reportByte(i));
            }
        } catch (IndexOutOfBoundsException e) {
            s.append("<end>");
        }
    }

    /** What only later calls show: the buffer, what arrived since the tick, the calls to undo, what is saved. */
    static String later(CellLoans x) {
        StringBuilder s = new StringBuilder();
        try {
            s.append("script ").append(x.runScript());
        } catch (IllegalArgumentException e) {
            s.append("no script");
        }
        s.append(", error ").append(x.errorCode()).append(" at ").append(x.errorPosition()).append('\n');
        // The forecasts tell what arrived since the tick before.
        s.append("tick ").append(x.tick(1)).append('\n');
        switchOf(x, s);
        int left = x.undo();
        for (int calls = 0; calls < 10 && left != CellLoans.NONE; calls++) {
            s.append("\nundo ").append(left).append(": ");
            settingsOf(x, s);
            left = x.undo();
        }
        try {
            s.append("\nsaved ").append(x.restore()).append(": ");
            switchOf(x, s);
        } catch (IllegalStateException e) {
            s.append("\nnothing saved");
        }
        return s.toString();
    }
}
