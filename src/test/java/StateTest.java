/** Promises 8 to 17: what the switch tells of itself. */
public final class StateTest {
    private StateTest() {
    }

    public static void main(String[] args) {
        CellLoans x = Sheet.made("port a 10 3 first 2; port b 6 2 first 1; port c 0 0; term 3; keep 150;");
        Check.same("arrive at c", x.arrive(2, 9), 9);
        lentOut(x);
        Check.same("arrive at a", x.arrive(0, 4), 0);
        Check.same("tick", x.tick(1), 1);
        calledIn(x);
        setting(x);
        port(x);
        packet(x);
        promise(x);
        owed(x);
        drop(x);
        ledgerOfTwenty();
        mostCharged();
        lossShare();
        meanForecast();
        Check.finish();
    }

    private static void row(String what, int[] got, int... due) {
        for (int i = 0; i < due.length; i++) {
            Check.same(what + " " + i, got[i], due[i]);
        }
    }

    private static int[] settings(CellLoans x) {
        int[] all = new int[12];
        for (int i = 0; i < 12; i++) {
            all[i] = x.setting(i);
        }
        return all;
    }

    private static int[] portRow(CellLoans x, int port) {
        int[] all = new int[13];
        for (int i = 0; i < 13; i++) {
            all[i] = x.port(port, i);
        }
        return all;
    }

    /** Port c has borrowed 7 cells of a, which can lend most, and 2 of b. */
    private static void lentOut(CellLoans x) {
        row("8: setting", settings(x), 3, 3, 150, 0, 16, 9, 9, 7, 2, 1, 0, 1);
        row("9: port a", portRow(x, 0), 10, 3, 0, 3, 7, 0, 0, 32, 3, 0, 0, 0, 0);
        row("9: port b", portRow(x, 1), 6, 2, 0, 4, 2, 0, 2, 16, 2, 0, 0, 0, 0);
        row("9: port c", portRow(x, 2), 0, 0, 9, 0, 0, 9, 0, 0, 0, 1, 0, 0, 0);
        Check.same("11: lender of promise 0", x.promise(0, 0), 0);
        Check.same("11: borrower of promise 0", x.promise(0, 1), 2);
        Check.same("11: cells of promise 0", x.promise(0, 2), 7);
        Check.same("11: promise 0 falls due", x.promise(0, 3), 3);
        Check.same("11: lender of promise 1", x.promise(1, 0), 1);
        Check.same("11: cells of promise 1", x.promise(1, 2), 2);
        Check.same("12: a lent to c", x.owed(0, 2), 7);
        Check.same("12: c lent to a", x.owed(2, 0), 0);
        Check.same("12: b lent to c", x.owed(1, 2), 2);
        Check.same("13: no drop yet", x.drop(0, 0), CellLoans.NONE);
        Check.same("15: nobody was charged yet", x.mostCharged(), 0);
        Check.same("16: nothing was lost yet", x.lossShare(), 0.0f);
        Check.same("17: mean forecast", x.meanForecast(), 1.0);
    }

    /** Port a has called in one cell, for which c lost its packet; then a sent 3 of 4 cells. */
    private static void calledIn(CellLoans x) {
        row("8: setting", settings(x), 3, 3, 150, 1, 16, 1, 8, 15, 2, 1, 1, 2);
        row("9: port a", portRow(x, 0), 10, 3, 1, 3, 6, 0, 0, 40, 4, 1, 0, 0, 3);
        row("9: port b", portRow(x, 1), 6, 2, 0, 4, 2, 0, 2, 12, 2, 0, 0, 0, 0);
        row("9: port c", portRow(x, 2), 0, 0, 0, 8, 0, 8, 0, 36, 4, 0, 1, 9, 0);
        Check.same("13: port", x.drop(0, 0), 2);
        Check.same("13: cells", x.drop(0, 1), 9);
        Check.same("13: reason", x.drop(0, 2), 2);
        Check.same("13: charged", x.drop(0, 3), 2);
        Check.same("13: when", x.drop(0, 4), 0);
        Check.same("13: no drop before it", x.drop(1, 0), CellLoans.NONE);
        Check.same("14: none refused", x.dropsBy(1), 0);
        Check.same("14: one called in", x.dropsBy(2), 1);
        Check.same("14: none fell due", x.dropsBy(3), 0);
        Check.same("15: c was charged most", x.mostCharged(), 2);
        Check.same("16: half was lost", x.lossShare(), 0.5f);
        Check.same("17: mean forecast", x.meanForecast(), 88 / 48.0);
    }

    private static void setting(CellLoans x) {
        Check.refused("8: setting -1", IllegalArgumentException.class, () -> x.setting(-1));
        Check.refused("8: setting 12", IllegalArgumentException.class, () -> x.setting(12));
    }

    private static void port(CellLoans x) {
        Check.refused("9: port -1", IndexOutOfBoundsException.class, () -> x.port(-1, 0));
        Check.refused("9: port 3", IndexOutOfBoundsException.class, () -> x.port(3, 0));
        Check.refused("9: port 3 before what 13", IndexOutOfBoundsException.class, () -> x.port(3, 13));
        Check.refused("9: what 13", IllegalArgumentException.class, () -> x.port(2, 13));
        Check.refused("9: what -1", IllegalArgumentException.class, () -> x.port(2, -1));
    }

    private static void packet(CellLoans x) {
        Check.same("10: cells yet", x.packet(0, 0, 0), 1);
        Check.same("10: cells that it had", x.packet(0, 0, 1), 4);
        Check.same("10: when it came", x.packet(0, 0, 2), 0);
        x.arrive(0, 2);
        Check.same("10: the second one", x.packet(0, 1, 0), 2);
        Check.same("10: when that came", x.packet(0, 1, 2), 1);
        x.undo();
        Check.refused("10: port 3", IndexOutOfBoundsException.class, () -> x.packet(3, 0, 0));
        Check.refused("10: packet 1", IndexOutOfBoundsException.class, () -> x.packet(0, 1, 0));
        Check.refused("10: packet -1", IndexOutOfBoundsException.class, () -> x.packet(0, -1, 0));
        Check.refused("10: of an empty queue", IndexOutOfBoundsException.class, () -> x.packet(2, 0, 3));
        Check.refused("10: what 3", IllegalArgumentException.class, () -> x.packet(0, 0, 3));
        Check.refused("10: what -1", IllegalArgumentException.class, () -> x.packet(0, 0, -1));
    }

    private static void promise(CellLoans x) {
        Check.same("11: cells after one was called in", x.promise(0, 2), 6);
        Check.refused("11: promise 2", IndexOutOfBoundsException.class, () -> x.promise(2, 0));
        Check.refused("11: promise -1", IndexOutOfBoundsException.class, () -> x.promise(-1, 4));
        Check.refused("11: what 4", IllegalArgumentException.class, () -> x.promise(1, 4));
        Check.refused("11: what -1", IllegalArgumentException.class, () -> x.promise(1, -1));
    }

    private static void owed(CellLoans x) {
        Check.same("12: to itself", x.owed(0, 0), 0);
        Check.refused("12: port 3", IndexOutOfBoundsException.class, () -> x.owed(3, 0));
        Check.refused("12: other 3", IndexOutOfBoundsException.class, () -> x.owed(0, 3));
        Check.refused("12: other -1", IndexOutOfBoundsException.class, () -> x.owed(0, -1));
        CellLoans y = Sheet.made("port a 0 0; port b 9 0;");
        y.arrive(0, 2);
        y.arrive(0, 3);
        Check.same("12: two promises together", y.owed(1, 0), 5);
    }

    private static void drop(CellLoans x) {
        Check.same("13: negative i", x.drop(-1, 0), CellLoans.NONE);
        Check.same("13: least int", x.drop(Integer.MIN_VALUE, 0), CellLoans.NONE);
        Check.refused("13: what 5", IllegalArgumentException.class, () -> x.drop(0, 5));
        Check.refused("13: what -1", IllegalArgumentException.class, () -> x.drop(0, -1));
        Check.refused("13: what 5 of no drop", IllegalArgumentException.class, () -> x.drop(9, 5));
        Check.refused("14: reason 0", IllegalArgumentException.class, () -> x.dropsBy(0));
        Check.refused("14: reason 4", IllegalArgumentException.class, () -> x.dropsBy(4));
    }

    private static void ledgerOfTwenty() {
        CellLoans x = Sheet.made("port a 0 0; port b 0 0;");
        for (int cells = 1; cells <= 25; cells++) {
            Check.same("13: dropped", x.arrive(cells % 2, cells), -2);
            x.tick(1);
        }
        Check.same("13: all drops count", x.setting(10), 25);
        Check.same("14: for reason 1", x.dropsBy(1), 25);
        for (int i = 0; i < 20; i++) {
            Check.same("13: port of drop " + i, x.drop(i, 0), (25 - i) % 2);
            Check.same("13: cells of drop " + i, x.drop(i, 1), 25 - i);
            Check.same("13: reason of drop " + i, x.drop(i, 2), 1);
            Check.same("13: charged for drop " + i, x.drop(i, 3), (25 - i) % 2);
            Check.same("13: time of drop " + i, x.drop(i, 4), 24 - i);
        }
        Check.same("13: no more than 20", x.drop(20, 0), CellLoans.NONE);
        Check.same("13: nor far behind", x.drop(Integer.MAX_VALUE, 4), CellLoans.NONE);
    }

    private static void mostCharged() {
        CellLoans x = Sheet.made("port a 0 0; port b 0 0; port c 0 0;");
        x.arrive(2, 5);
        Check.same("15: the only one", x.mostCharged(), 2);
        x.arrive(1, 5);
        Check.same("15: the lowest of two", x.mostCharged(), 1);
        x.arrive(2, 1);
        Check.same("15: by cells", x.mostCharged(), 2);
        x.arrive(0, 7);
        Check.same("15: not by packets", x.mostCharged(), 0);
    }

    private static void lossShare() {
        CellLoans x = Sheet.made("port a 4 0;");
        x.arrive(0, 4);
        x.arrive(0, 1);
        x.arrive(0, 1);
        Check.same("16: two of three as floats", x.lossShare(), 2.0f / 3.0f);
        Check.same("16: of a new object", new CellLoans().lossShare(), 0.0f);
    }

    private static void meanForecast() {
        CellLoans x = Sheet.made("port a 0 0 first 40; port b 0 0; port c 0 0 first 3;");
        Check.same("17: in cells", x.meanForecast(), 688 / 48.0);
        x.arrive(1, 5);
        x.tick(1);
        // a: 640 - 160, b: 0 + 20, c: 48 - 12
        Check.same("17: in sixteenths", x.meanForecast(), 536 / 48.0);
        Check.same("17: without ports", new CellLoans().meanForecast(), 0.0);
    }
}
