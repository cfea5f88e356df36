/** Promises 31 to 35: undo, reports, saving. */
public final class UndoTest {
    private UndoTest() {
    }

    public static void main(String[] args) {
        undoOfEach();
        latestSix();
        whatUndoLeaves();
        report();
        longReport();
        reportByte();
        save();
        restore();
        Check.finish();
    }

    private static CellLoans made() {
        return Sheet.made("port a 9 1; port b 0 2; term 3; keep 50;");
    }

    private static void undoOfEach() {
        CellLoans x = made();
        Check.same("31: nothing to undo", x.undo(), CellLoans.NONE);
        x.arrive(1, 4);
        x.tick(1);
        String before = Sheet.reported(x);
        x.arrive(0, 9);
        Check.same("31: the call dropped a packet", x.setting(10), 1);
        Check.same("31: undo", x.undo(), 2);
        Sheet.report("31: arrive", x, before);
        Check.same("31: the ledger is back", x.drop(0, 0), CellLoans.NONE);
        Check.same("31: the reason is back", x.dropsBy(2), 0);
        Check.same("31: the charge is back", x.port(1, 11), 0);
        Check.same("31: arrivals are back", x.setting(11), 1);
        x.arrive(0, 3);
        x.undo();
        x.tick(1);
        Check.same("31: arrivals since the tick are back", x.port(0, 7), 0);
        x.undo();
        x.giveBack(1, 0, 2);
        x.undo();
        Sheet.report("31: giveBack", x, before);
        x.extend(0);
        x.undo();
        Check.same("31: extend", x.promise(0, 3), 3);
        x.setTerm(9);
        x.setKeep(9);
        x.undo();
        x.undo();
        Check.same("31: setTerm", x.setting(1), 3);
        Check.same("31: setKeep", x.setting(2), 50);
        Sheet.run(x, "tick 5; arrive b 2;");
        x.undo();
        Sheet.report("31: script", x, before);
        Check.same("31: the clock", x.setting(3), 1);
        Check.same("31: the tick", x.undo(), 1);
        Check.same("31: the first arrival", x.undo(), 0);
        Check.same("31: nothing more", x.undo(), CellLoans.NONE);
        Sheet.report("31: as at first", x, "a 0/9\nb 0/0\n");
    }

    private static void latestSix() {
        CellLoans x = made();
        for (int t = 10; t <= 18; t++) {
            x.setTerm(t);
        }
        for (int i = 0; i < 6; i++) {
            Check.same("31: still to undo", x.undo(), 5 - i);
            Check.same("31: the term before", x.setting(1), 17 - i);
        }
        Check.same("31: no more than six", x.undo(), CellLoans.NONE);
        Check.same("31: nothing changes", x.setting(1), 12);
        x.setTerm(50);
        x.setTerm(51);
        Check.same("31: two again", x.undo(), 1);
        x.setTerm(52);
        Check.same("31: another in its place", x.undo(), 1);
        Check.same("31: the term", x.setting(1), 50);
        Check.same("31: the first of them", x.undo(), 0);
        Check.same("31: the term then", x.setting(1), 12);
    }

    private static void whatUndoLeaves() {
        CellLoans x = made();
        x.arrive(0, 2);
        x.save();
        x.report();
        x.tick(1);
        Sheet.wrongText(x, "port a", 1, 6);
        x.feed(0, 0, 0, 0, 0);
        x.undo();
        x.undo();
        Check.same("31: the error stays", x.errorCode(), 1);
        Check.same("31: the buffer stays", x.truncate(20), 20);
        Check.same("31: the report stays", x.reportByte(2), '2');
        Check.same("31: what is saved stays", x.restore(), 0);
        Check.same("31: with its packet", x.setting(9), 1);
        x.truncate(0);
        x.tick(1);
        x.readText();
        Check.same("31: forgotten by readText", x.undo(), CellLoans.NONE);
        x.tick(1);
        x.restore();
        Check.same("31: forgotten by restore", x.undo(), CellLoans.NONE);
        x.setTerm(8);
        Check.refused("31: a call that throws", IllegalArgumentException.class, () -> x.setTerm(0));
        Check.same("31: save and report are no changes", x.save() + (x.report() > 0 ? 1 : 0), 1);
        Check.same("31: only setTerm", x.undo(), 0);
    }

    private static void report() {
        CellLoans x = new CellLoans();
        Check.same("32: without ports", x.report(), 0);
        Sheet.read(x, "port abcdefgh 40 0; port b 12 0; port c 0 0;");
        x.arrive(2, 30);
        x.arrive(2, 15);
        x.arrive(1, 4);
        Sheet.report("32: loans", x, "abcdefgh 0/7 c:30 c:3\nb 4/4 c:8\nc 30/41\n");
        Check.same("32: bytes", x.report(), 40);
        x.setTerm(1);
        x.extend(0);
        Sheet.report("32: in their order", x, "abcdefgh 0/7 c:3 c:30\nb 4/4 c:8\nc 30/41\n");
        x.tick(4);
        Sheet.report("32: later", x, "abcdefgh 0/10 c:30\nb 4/12\nc 30/30\n");
        x.arrive(0, 10);
        Sheet.report("32: another in place of the one before", x, "abcdefgh 10/10 c:30\nb 4/12\nc 30/30\n");
        Sheet.read(x, "port a 40 0; port b 40 0; port c 20 0;");
        x.arrive(0, 40);
        x.arrive(0, 40);
        x.arrive(0, 19);
        Sheet.report("32: 99", x, "a 99/99\nb 0/0 a:40\nc 0/1 a:19\n");
        x.arrive(0, 1);
        Sheet.report("32: 100", x, "a 100/100\nb 0/0 a:40\nc 0/0 a:19 a:1\n");
    }

    private static CellLoans allAtA() {
        CellLoans x = Sheet.made("port aaaaaaaa 40 0; port bbbbbbbb 40 0; port cccccccc 40 0; port dddddddd 40 0;"
                + "port eeeeeeee 40 0; port ffffffff 40 0; term 99; keep 0;");
        for (int i = 0; i < 6; i++) {
            Sheet.run(x, "repeat 2 (repeat 20 (arrive aaaaaaaa 1;););");
        }
        return x;
    }

    private static void longReport() {
        CellLoans x = allAtA();
        Check.same("32: all cells in use", x.setting(7), 0);
        Check.same("32: two hundred promises", x.setting(8), 200);
        Check.same("32: none is free", x.arrive(0, 1), -2);
        String loans = Sheet.repeated(" aaaaaaaa:1", 40);
        Check.text("32: the longest lines", Sheet.longReport(UndoTest::allAtA), "aaaaaaaa 240/240\nbbbbbbbb 0/0" + loans
                + "\ncccccccc 0/0" + loans + "\ndddddddd 0/0" + loans + "\neeeeeeee 0/0" + loans
                + "\nffffffff 0/0" + loans + "\n");
    }

    private static void reportByte() {
        CellLoans x = made();
        Check.refused("33: no report yet", IndexOutOfBoundsException.class, () -> x.reportByte(0));
        Check.same("33: bytes", x.report(), 12);
        Check.same("33: the first", x.reportByte(0), 'a');
        Check.same("33: a space", x.reportByte(1), 32);
        Check.same("33: a slash", x.reportByte(3), 47);
        Check.same("33: the last", x.reportByte(11), 10);
        Check.refused("33: behind it", IndexOutOfBoundsException.class, () -> x.reportByte(12));
        Check.refused("33: before it", IndexOutOfBoundsException.class, () -> x.reportByte(-1));
        x.arrive(1, 2);
        Check.same("33: the report does not follow", x.reportByte(8), '0');
        x.report();
        Check.same("33: a colon", x.reportByte(7), 58);
        Sheet.read(x, "");
        Check.same("33: readText leaves it", x.reportByte(7), 58);
        x.report();
        Check.refused("33: an empty report", IndexOutOfBoundsException.class, () -> x.reportByte(0));
    }

    private static void save() {
        CellLoans x = made();
        x.tick(7);
        Check.same("34: the clock", x.save(), 7);
        Check.same("34: undo stays", x.undo(), 0);
        Check.same("34: the clock before", x.save(), 0);
        x.tick(3);
        Check.same("34: in place of the one before", x.restore(), 0);
    }

    private static void restore() {
        CellLoans x = made();
        Check.refused("35: nothing was saved", IllegalStateException.class, () -> x.restore());
        x.arrive(1, 4);
        x.tick(2);
        x.arrive(0, 9);
        x.arrive(1, 3);
        x.save();
        String before = Sheet.reported(x);
        Sheet.read(x, "port z 1 1; port b 2 2; port c 3 3;");
        x.arrive(0, 1);
        x.report();
        x.feed(0, 0, 0, 0, 0);
        Check.same("35: the clock", x.restore(), 2);
        Check.same("35: the report stays", x.reportByte(0), 'z');
        Check.same("35: the buffer stays", x.truncate(0), 0);
        Sheet.report("35: names, queues and promises", x, before);
        Check.same("35: ports", x.setting(0), 2);
        Check.same("35: term", x.setting(1), 3);
        Check.same("35: arrivals", x.setting(11), 3);
        Check.same("35: the ledger", x.drop(0, 1), 3);
        Check.same("35: the latest reason", x.dropsBy(1), 1);
        Check.same("35: the charge", x.port(1, 11), 3);
        Check.same("35: nothing to undo", x.undo(), CellLoans.NONE);
        x.tick(1);
        // 36 arrived at a since the tick before: 144 / 4
        Check.same("35: what arrived since the tick", x.port(0, 7), 36);
        Check.same("35: it stays saved", x.restore(), 2);
        Check.same("35: nothing to undo again", x.undo(), CellLoans.NONE);
        Check.same("35: script finds the names", Sheet.run(x, "arrive b 1;"), 1);
    }
}
