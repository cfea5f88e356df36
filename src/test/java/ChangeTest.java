/** Promises 25 to 30: arrivals, ticks, cells given back, promises extended, "term" and "keep". */
public final class ChangeTest {
    private ChangeTest() {
    }

    public static void main(String[] args) {
        arriveTakes();
        arriveBorrows();
        arriveCallsIn();
        arriveIsDropped();
        arriveWrong();
        tickSends();
        tickLearns();
        tickFallsDue();
        tickWrong();
        giveBack();
        giveBackWrong();
        extend();
        extendWrong();
        setTerm();
        setKeep();
        Check.finish();
    }

    private static void promise(String what, CellLoans x, int i, int... due) {
        for (int k = 0; k < due.length; k++) {
            Check.same(what + ": promise " + i + ", " + k, x.promise(i, k), due[k]);
        }
    }

    private static void drop(String what, CellLoans x, int i, int... due) {
        for (int k = 0; k < due.length; k++) {
            Check.same(what + ": drop " + i + ", " + k, x.drop(i, k), due[k]);
        }
    }

    private static void arriveTakes() {
        CellLoans x = Sheet.made("port a 40 0; port b 4 0;");
        Check.same("25: 40 cells that are free", x.arrive(0, 40), 0);
        Check.same("25: 4 cells that are free", x.arrive(1, 4), 0);
        Check.same("25: all in use", x.setting(7), 0);
        Check.same("25: nothing lent", x.setting(8), 0);
        Check.same("25: behind it", x.arrive(1, 1), -2);
        Check.same("25: the queue stays", x.packet(1, 0, 0), 4);
    }

    private static void arriveBorrows() {
        CellLoans x = Sheet.made("port a 0 0; port b 3 0; port c 5 0; port d 5 0; port e 9 0 first 6; term 2;");
        Check.same("25: all from one", x.arrive(0, 2), 2);
        promise("25", x, 0, 2, 0, 2, 2);
        Check.same("25: from three", x.arrive(0, 9), 9);
        Check.same("25: promises", x.setting(8), 4);
        promise("25: the most first", x, 1, 3, 0, 5, 2);
        promise("25: then the lowest of several", x, 2, 1, 0, 3, 2);
        promise("25: then what is missing yet", x, 3, 2, 0, 1, 2);
        Check.same("25: more than all can lend", x.arrive(0, 6), -2);
        Check.same("25: all that they can lend", x.arrive(0, 5), 5);
        promise("25: e keeps back 6", x, 4, 4, 0, 3, 2);
        promise("25: c lends the rest", x, 5, 2, 0, 2, 2);
        Check.same("25: b may not lend what it borrows", x.arrive(1, 1), 0);
        Check.same("25: b called it in", x.owed(1, 0), 2);
        CellLoans y = Sheet.made("port a 1 0; port b 9 0; port c 9 0;");
        y.arrive(0, 1);
        y.arrive(0, 5);
        y.arrive(1, 4);
        Check.same("25: borrowed cells are not lent on", y.greatest(2), 9);
        Check.same("25: with free cells of its own", y.arrive(2, 1), 0);
        Check.same("25: b borrows although it lends", y.arrive(1, 6), 6);
        Check.same("25: from c", y.owed(2, 1), 6);
        Check.same("25: it calls nothing in then", y.owed(1, 0), 5);
    }

    private static void arriveCallsIn() {
        CellLoans x = Sheet.made("port a 9 0; port b 0 0; port c 0 0; term 5;");
        x.arrive(1, 1);
        x.tick(1);
        x.arrive(2, 3);
        x.arrive(1, 2);
        x.arrive(1, 2);
        Check.same("25: nothing is borrowed", x.arrive(0, 6), 0);
        // 1 from b, 3 from c, 1 of the 2 cells from b: of each as soon as it is its turn.
        Check.same("25: promises that stay", x.setting(8), 2);
        promise("25", x, 0, 0, 1, 1, 6);
        promise("25", x, 1, 0, 1, 2, 6);
        Check.same("25: drops", x.setting(10), 2);
        drop("25: c lost its packet", x, 0, 2, 3, 2, 2, 1);
        drop("25: b lost its newest", x, 1, 1, 2, 2, 1, 1);
        Check.same("25: b is charged", x.port(1, 11), 2);
        Check.same("25: c is charged", x.port(2, 11), 3);
        Check.same("25: a is not", x.port(0, 11), 0);
        Check.same("25: b has two packets", x.port(1, 9), 2);
        Check.same("25: no free cell of b", x.port(1, 3), 0);
        CellLoans y = Sheet.made("port a 9 0; port b 2 0;");
        y.arrive(1, 3);
        Check.same("25: one lent", y.port(0, 4), 1);
        Check.same("25: b has free cells again", y.arrive(0, 9), 0);
        Check.same("25: b lost its packet", y.dropsBy(2), 1);
        Check.same("25: and has its share", y.port(1, 3), 2);
    }

    private static void arriveIsDropped() {
        CellLoans x = Sheet.made("port a 3 0; port b 2 0 first 1;");
        Check.same("25: too large", x.arrive(0, 5), -2);
        drop("25", x, 0, 0, 5, 1, 0, 0);
        Check.same("25: it arrived", x.setting(11), 1);
        Check.same("25: it was dropped", x.setting(10), 1);
        Check.same("25: a is charged", x.port(0, 11), 5);
        Check.same("25: a packet of a", x.port(0, 10), 1);
        x.tick(1);
        Check.same("25: the forecast counts it", x.port(0, 7), 20);
        Check.same("25: it can be undone", x.undo(), 1);
        Check.same("25: also the drop", x.undo(), 0);
        Check.same("25: as if it had not come", x.setting(11), 0);
    }

    private static void arriveWrong() {
        CellLoans x = Sheet.made("port a 3 0;");
        Check.refused("25: port 1", IndexOutOfBoundsException.class, () -> x.arrive(1, 0));
        Check.refused("25: port -1", IndexOutOfBoundsException.class, () -> x.arrive(-1, 1));
        Check.refused("25: 0 cells", IllegalArgumentException.class, () -> x.arrive(0, 0));
        Check.refused("25: 41 cells", IllegalArgumentException.class, () -> x.arrive(0, 41));
        Check.same("25: nothing to undo", x.undo(), CellLoans.NONE);
        Check.same("25: 40 cells", x.arrive(0, 40), -2);
    }

    private static void tickSends() {
        CellLoans x = Sheet.made("port a 20 4; port b 20 0; port c 20 9;");
        x.arrive(0, 3);
        x.arrive(0, 3);
        x.arrive(1, 5);
        x.arrive(2, 2);
        Check.same("26: the clock", x.tick(1), 1);
        Check.same("26: the second is first", x.packet(0, 0, 0), 2);
        Check.same("26: it had three", x.packet(0, 0, 1), 3);
        Check.same("26: one packet waits", x.port(0, 9), 1);
        Check.same("26: a sent", x.port(0, 12), 4);
        Check.same("26: rate 0", x.port(1, 2), 5);
        Check.same("26: all that c has", x.port(2, 12), 2);
        Check.same("26: several ticks", x.tick(99), 100);
        Check.same("26: a is empty", x.port(0, 9), 0);
        Check.same("26: a sent all", x.port(0, 12), 6);
    }

    private static void tickLearns() {
        CellLoans x = Sheet.made("port a 40 0 first 1; port b 0 0; keep 10;");
        x.arrive(1, 1);
        x.tick(1);
        Check.same("26: less", x.port(0, 7), 12);
        Check.same("26: more", x.port(1, 7), 4);
        x.tick(2);
        // 12, 9, 9 - 2 as 2.25 is divided towards 0
        Check.same("26: towards 0", x.port(0, 7), 7);
        Check.same("26: 4, 3, 3", x.port(1, 7), 3);
        Check.same("26: rounded up", x.port(0, 8), 1);
        x.tick(9);
        Check.same("26: it stays at 3", x.port(0, 7), 3);
        x.arrive(0, 40);
        x.arrive(0, 30);
        x.tick(1);
        // 16 * 70 - 3 = 1117, a quarter 279
        Check.same("26: of all that arrived", x.port(0, 7), 282);
        x.setKeep(0);
        Check.same("26: nothing kept back", x.port(0, 8), 0);
    }

    private static void tickFallsDue() {
        CellLoans x = Sheet.made("port a 9 0; port b 0 1; port c 0 0; term 3;");
        x.arrive(1, 2);
        x.arrive(2, 1);
        x.arrive(1, 3);
        x.tick(2);
        Check.same("26: not yet", x.setting(8), 3);
        Check.same("26: b sent two", x.port(1, 2), 3);
        x.tick(1);
        Check.same("26: all were given back", x.setting(8), 0);
        Check.same("26: nothing is lent", x.port(0, 4), 0);
        Check.same("26: nothing is borrowed", x.port(1, 5), 0);
        drop("26: the last promise", x, 0, 1, 3, 3, 1, 3);
        drop("26: the one before it", x, 1, 2, 1, 3, 2, 3);
        Check.same("26: nothing else was dropped", x.setting(10), 2);
        Check.same("26: given back before b could send", x.port(1, 12), 2);
        Check.same("26: b is charged", x.port(1, 11), 3);
    }

    private static void tickWrong() {
        CellLoans x = Sheet.made("port a 3 1;");
        Check.refused("26: 0 ticks", IllegalArgumentException.class, () -> x.tick(0));
        Check.refused("26: -1 ticks", IllegalArgumentException.class, () -> x.tick(-1));
        Check.refused("26: 100 ticks", IllegalArgumentException.class, () -> x.tick(100));
        for (int i = 1; i <= 100; i++) {
            Check.same("26: 99 ticks", x.tick(99), 99 * i);
        }
        x.arrive(0, 2);
        Check.same("26: to 9998", x.tick(98), 9998);
        Check.same("26: over 9999", x.tick(2), CellLoans.NONE);
        Check.same("26: nothing changed", x.setting(3), 9998);
        Check.same("26: nothing more to undo", x.undo(), 5);
        Check.same("26: again", x.tick(98), 9998);
        Check.same("26: the last one", x.tick(1), 9999);
        Check.same("26: no more", x.tick(1), CellLoans.NONE);
        Check.refused("26: 100 ticks at the end", IllegalArgumentException.class, () -> x.tick(100));
    }

    private static void giveBack() {
        CellLoans x = Sheet.made("port a 9 0; port b 2 4; port c 7 0; term 9;");
        x.arrive(1, 4);
        x.tick(1);
        x.arrive(1, 4);
        x.arrive(1, 5);
        // a lent 2 due at 9, and 2 due at 10 (b has no more free cells then); c and a lent the rest
        x.tick(2);
        int owedBefore = x.owed(0, 1);
        Check.same("27: b can give back", x.port(1, 3) > 3 ? 1 : 0, 1);
        Check.same("27: the first promise and one cell of the next", x.giveBack(1, 0, 3), owedBefore - 3);
        Check.same("27: no drop", x.setting(10), 0);
        Check.same("27: a has lent less", x.port(0, 4), owedBefore - 3);
        Check.same("27: the promises of c stay", x.owed(2, 1), x.port(1, 5) - x.owed(0, 1));
        x.undo();
        Check.same("27: undone", x.owed(0, 1), owedBefore);
        CellLoans y = Sheet.made("port a 9 0; port b 0 9; port c 1 0; term 4;");
        y.arrive(1, 2);
        y.tick(1);
        y.arrive(1, 5);
        y.tick(1);
        Check.same("27: in their order", y.giveBack(1, 0, 3), 2);
        promise("27: the second promise is first", y, 0, 0, 1, 2, 5);
        Check.same("27: all", y.giveBack(1, 0, 2), 0);
        Check.same("27: none is left", y.setting(8), 0);
        Check.same("27: a can lend all", y.port(0, 3), 9);
    }

    private static void giveBackWrong() {
        CellLoans x = Sheet.made("port a 9 0; port b 0 2;");
        x.arrive(1, 5);
        x.tick(1);
        Check.refused("27: port 2", IndexOutOfBoundsException.class, () -> x.giveBack(2, 0, 0));
        Check.refused("27: other 2", IndexOutOfBoundsException.class, () -> x.giveBack(1, 2, 0));
        Check.refused("27: other -1", IndexOutOfBoundsException.class, () -> x.giveBack(1, -1, 1));
        Check.refused("27: 0 cells", IllegalArgumentException.class, () -> x.giveBack(1, 0, 0));
        Check.refused("27: 41 cells", IllegalArgumentException.class, () -> x.giveBack(1, 0, 41));
        Check.refused("27: more than it owes", IllegalStateException.class, () -> x.giveBack(1, 0, 6));
        Check.refused("27: more than is free", IllegalStateException.class, () -> x.giveBack(1, 0, 3));
        Check.refused("27: the other way", IllegalStateException.class, () -> x.giveBack(0, 1, 1));
        Check.refused("27: to itself", IllegalStateException.class, () -> x.giveBack(1, 1, 1));
        Check.same("27: just what is free", x.giveBack(1, 0, 2), 3);
        Check.same("27: undo", x.undo(), 2);
        CellLoans y = Sheet.made("port a 9 0; port b 4 9; port c 0 0;");
        y.arrive(1, 6);
        y.tick(1);
        Check.refused("27: free, but not owed", IllegalStateException.class, () -> y.giveBack(1, 0, 3));
        Check.same("27: free and owed", y.giveBack(1, 0, 2), 0);
    }

    private static void extend() {
        CellLoans x = Sheet.made("port a 9 0; port b 0 0; term 2;");
        x.arrive(1, 1);
        x.arrive(1, 2);
        x.setTerm(4);
        x.arrive(1, 3);
        x.setTerm(2);
        Check.same("28: later", x.extend(0), 4);
        promise("28: the second is first", x, 0, 0, 1, 2, 2);
        promise("28: the third is second", x, 1, 0, 1, 3, 4);
        promise("28: the latest of those", x, 2, 0, 1, 1, 4);
        x.setTerm(3);
        Check.same("28: by the term that is", x.extend(1), 7);
        Check.same("28: undo", x.undo(), 5);
        promise("28: as before", x, 1, 0, 1, 3, 4);
        x.arrive(1, 1);
        x.setTerm(1);
        Check.same("28: among the same", x.extend(0), 3);
        promise("28: before the one that was made then", x, 0, 0, 1, 1, 3);
        promise("28: behind it", x, 1, 0, 1, 2, 3);
    }

    private static void extendWrong() {
        CellLoans x = Sheet.made("port a 9 0 first 4; port b 0 0;");
        x.arrive(1, 3);
        Check.refused("28: promise 1", IndexOutOfBoundsException.class, () -> x.extend(1));
        Check.refused("28: promise -1", IndexOutOfBoundsException.class, () -> x.extend(-1));
        x.arrive(0, 2);
        Check.same("28: just what it keeps back", x.extend(0), 8);
        x.arrive(0, 1);
        Check.refused("28: less than it keeps back", IllegalStateException.class, () -> x.extend(0));
        Check.refused("28: no such promise comes first", IndexOutOfBoundsException.class, () -> x.extend(1));
        Check.same("28: it falls due as before", x.promise(0, 3), 8);
        x.setKeep(75);
        Check.same("28: with less to keep back", x.extend(0), 12);
        CellLoans y = Sheet.made("port a 9 0; port b 0 0;");
        Check.refused("28: of no promises", IndexOutOfBoundsException.class, () -> y.extend(0));
    }

    private static void setTerm() {
        CellLoans x = Sheet.made("port a 9 0; port b 0 0;");
        x.arrive(1, 1);
        Check.same("29: the one before", x.setTerm(99), 4);
        Check.same("29: set", x.setting(1), 99);
        Check.same("29: a promise stays", x.promise(0, 3), 4);
        x.arrive(1, 1);
        Check.same("29: a new one", x.promise(1, 3), 99);
        Check.refused("29: 0", IllegalArgumentException.class, () -> x.setTerm(0));
        Check.refused("29: 100", IllegalArgumentException.class, () -> x.setTerm(100));
        Check.same("29: 1", x.setTerm(1), 99);
        Check.same("29: the same again", x.setTerm(1), 1);
        Check.same("29: undo", x.undo(), 4);
    }

    private static void setKeep() {
        CellLoans x = Sheet.made("port a 9 0 first 3;");
        Check.same("30: the one before", x.setKeep(200), 100);
        Check.same("30: set", x.setting(2), 200);
        Check.same("30: twice the forecast", x.port(0, 8), 6);
        Check.same("30: what is left to lend", x.port(0, 6), 3);
        Check.refused("30: -1", IllegalArgumentException.class, () -> x.setKeep(-1));
        Check.refused("30: 201", IllegalArgumentException.class, () -> x.setKeep(201));
        Check.same("30: 0", x.setKeep(0), 200);
        Check.same("30: all is left", x.port(0, 6), 9);
        x.setKeep(34);
        Check.same("30: rounded up", x.port(0, 8), 2);
        CellLoans y = Sheet.made("port a 40 0 first 1;");
        y.arrive(0, 8);
        y.tick(2);
        // 44, then 33 sixteenths: 33 * 97 is 1 more than 2 * 1600
        y.setKeep(97);
        Check.same("30: rounded up by one part of 1600", y.port(0, 8), 3);
        y.setKeep(96);
        Check.same("30: rounded up by nearly all", y.port(0, 8), 2);
        Check.same("30: undo", x.undo(), 2);
        Check.same("30: as before", x.setting(2), 0);
    }
}
