/** Promises 18 to 24: what would happen and what will come. */
public final class ForeseeTest {
    private ForeseeTest() {
    }

    public static void main(String[] args) {
        beforeArrivals();
        afterArrivals();
        wrongInputs();
        nothingChanges();
        greatest();
        sending();
        farAhead();
        Check.finish();
    }

    private static void would(String what, CellLoans x, int[] packet, int borrow, int call, int drop) {
        String packetText = what + ": " + packet[1] + " cells at port " + packet[0];
        Check.same("18: " + packetText, x.wouldBorrow(packet[0], packet[1]), borrow);
        Check.same("19: " + packetText, x.wouldCall(packet[0], packet[1]), call);
        Check.same("20: " + packetText, x.wouldDrop(packet[0], packet[1]), drop);
    }

    private static int[] at(int port, int cells) {
        return new int[] {port, cells};
    }

    private static void beforeArrivals() {
        CellLoans x = Sheet.made("port a 10 3; port b 6 1; port c 4 0; term 3;");
        would("empty", x, at(2, 4), 0, 0, 0);
        would("empty", x, at(2, 5), 1, 0, 0);
        would("empty", x, at(2, 20), 16, 0, 0);
        would("empty", x, at(2, 21), CellLoans.NONE, 0, 1);
        Check.same("21: greatest at c", x.greatest(2), 20);
        Check.same("22: drops", x.dropsIn(200), 0);
        Check.same("23: empty now", x.emptyIn(), 0);
        x.setKeep(200);
        Check.same("21: nothing is kept back of no forecast", x.greatest(2), 20);
    }

    private static CellLoans lent() {
        CellLoans x = Sheet.made("port a 10 3; port b 6 1; port c 4 0; term 3;");
        x.arrive(2, 6);
        x.arrive(2, 3);
        x.arrive(1, 6);
        return x;
    }

    private static void afterArrivals() {
        CellLoans x = lent();
        would("lent", x, at(0, 5), 0, 0, 0);
        would("lent", x, at(0, 6), 0, 1, 1);
        would("lent", x, at(0, 7), 0, 2, 1);
        would("lent", x, at(0, 8), 0, 3, 1);
        would("lent", x, at(0, 9), 0, 4, 2);
        would("lent", x, at(0, 10), 0, 5, 2);
        would("lent", x, at(0, 11), CellLoans.NONE, 0, 1);
        would("lent", x, at(1, 5), 5, 0, 0);
        would("lent", x, at(1, 6), CellLoans.NONE, 0, 1);
        Check.same("21: greatest by calling in", x.greatest(0), 10);
        Check.same("21: greatest by borrowing", x.greatest(1), 5);
        Check.same("21: greatest over its share", x.greatest(2), 5);
        Check.same("22: now", x.dropsIn(0), 0);
        Check.same("22: before they fall due", x.dropsIn(2), 0);
        Check.same("22: when they fall due", x.dropsIn(3), 2);
        Check.same("22: long after", x.dropsIn(200), 2);
        Check.same("23: when b is empty", x.emptyIn(), 6);
        Check.same("24: sent by b", x.sentIn(1, 0), 6);
        Check.same("24: dropped", x.sentIn(2, 0), CellLoans.NONE);
        Check.same("24: dropped, too", x.sentIn(2, 1), CellLoans.NONE);
    }

    private static void wrongInputs() {
        CellLoans x = lent();
        int[] wrongPorts = {-1, 3, Integer.MIN_VALUE, Integer.MAX_VALUE};
        for (int port : wrongPorts) {
            Check.refused("18: port " + port, IndexOutOfBoundsException.class, () -> x.wouldBorrow(port, 0));
            Check.refused("19: port " + port, IndexOutOfBoundsException.class, () -> x.wouldCall(port, 0));
            Check.refused("20: port " + port, IndexOutOfBoundsException.class, () -> x.wouldDrop(port, 0));
            Check.refused("21: port " + port, IndexOutOfBoundsException.class, () -> x.greatest(port));
            Check.refused("24: port " + port, IndexOutOfBoundsException.class, () -> x.sentIn(port, 0));
        }
        int[] wrongCells = {0, 41, -1, Integer.MAX_VALUE};
        for (int cells : wrongCells) {
            Check.refused("18: cells " + cells, IllegalArgumentException.class, () -> x.wouldBorrow(0, cells));
            Check.refused("19: cells " + cells, IllegalArgumentException.class, () -> x.wouldCall(0, cells));
            Check.refused("20: cells " + cells, IllegalArgumentException.class, () -> x.wouldDrop(0, cells));
        }
        Check.same("18: 40 cells", x.wouldBorrow(0, 40), CellLoans.NONE);
        Check.refused("22: -1 ticks", IllegalArgumentException.class, () -> x.dropsIn(-1));
        Check.refused("22: 201 ticks", IllegalArgumentException.class, () -> x.dropsIn(201));
        Check.refused("24: packet 2", IndexOutOfBoundsException.class, () -> x.sentIn(2, 2));
        Check.refused("24: packet -1", IndexOutOfBoundsException.class, () -> x.sentIn(2, -1));
        Check.refused("24: of an empty queue", IndexOutOfBoundsException.class, () -> x.sentIn(0, 0));
    }

    private static void nothingChanges() {
        CellLoans x = lent();
        x.wouldDrop(0, 8);
        x.wouldCall(0, 8);
        x.wouldBorrow(1, 5);
        x.greatest(0);
        x.dropsIn(50);
        x.emptyIn();
        x.sentIn(1, 0);
        Check.same("20: no drop", x.setting(10), 0);
        Check.same("20: no arrival", x.setting(11), 3);
        Check.same("22: the clock stays", x.setting(3), 0);
        Check.same("24: the queue stays", x.packet(1, 0, 0), 6);
        Check.same("20: the promises stay", x.setting(6), 5);
        Check.same("20: nothing more to undo", x.undo(), 2);
    }

    private static void greatest() {
        CellLoans x = Sheet.made("port a 40 0; port b 40 0;");
        Check.same("21: 40 at most", x.greatest(0), 40);
        x.arrive(1, 40);
        Check.same("21: its own share", x.greatest(0), 40);
        Check.same("21: all that a has", x.greatest(1), 40);
        x.arrive(0, 39);
        Check.same("21: one cell", x.greatest(0), 1);
        x.arrive(0, 1);
        Check.same("21: none", x.greatest(0), 0);
        Check.same("21: none without cells", Sheet.made("port a 0 0;").greatest(0), 0);
        CellLoans y = Sheet.made("port a 5 0; port b 10 0 first 8; keep 50;");
        Check.same("21: less what is kept back", y.greatest(0), 11);
    }

    private static void sending() {
        CellLoans x = Sheet.made("port a 20 3; port b 0 2;");
        x.arrive(0, 1);
        x.arrive(0, 2);
        x.arrive(0, 4);
        x.arrive(0, 6);
        Check.same("24: the first", x.sentIn(0, 0), 1);
        Check.same("24: the second", x.sentIn(0, 1), 1);
        Check.same("24: the third", x.sentIn(0, 2), 3);
        Check.same("24: the fourth", x.sentIn(0, 3), 5);
        Check.same("23: when that is sent", x.emptyIn(), 5);
        x.arrive(1, 6);
        Check.same("24: three ticks are enough", x.sentIn(1, 0), 3);
        x.arrive(1, 1);
        Check.same("24: sent as far as it got, then dropped", x.sentIn(1, 1), CellLoans.NONE);
        Check.same("22: one falls due", x.dropsIn(4), 1);
        Check.same("22: not before", x.dropsIn(3), 0);
        x.tick(4);
        Check.same("22: as foreseen", x.dropsBy(3), 1);
        Check.same("22: the clock tells when", x.drop(0, 4), 4);
    }

    private static void farAhead() {
        CellLoans x = Sheet.made("port a 40 1; port b 0 0; term 99;");
        x.arrive(1, 1);
        Check.same("22: due in 99", x.dropsIn(98), 0);
        Check.same("22: due then", x.dropsIn(99), 1);
        for (int i = 0; i < 4; i++) {
            x.extend(0);
        }
        x.setTerm(5);
        x.extend(0);
        Check.same("22: not in 200", x.dropsIn(200), 0);
        Check.same("23: 500 ticks", x.emptyIn(), 500);
        x.setTerm(1);
        x.extend(0);
        Check.same("23: not in 500", x.emptyIn(), CellLoans.NONE);
        Check.same("24: never sent", x.sentIn(1, 0), CellLoans.NONE);
        // The clock of a forecast may pass the last one of tick().
        CellLoans y = Sheet.made("port a 40 1;");
        for (int i = 0; i < 101; i++) {
            y.tick(99);
        }
        y.arrive(0, 30);
        Check.same("23: behind the end of the clock", y.emptyIn(), 30);
        Check.same("24: behind the end of the clock", y.sentIn(0, 0), 30);
    }
}
