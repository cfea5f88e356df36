/** What the tests of edges share: short names for what they look at, and numbers far outside of every range. */
abstract class Edges {
    static final int NONE = CellLoans.NONE;
    static final int DROPPED = -2;
    static final int[] WILD = {-1, Integer.MIN_VALUE, Integer.MAX_VALUE, Integer.MIN_VALUE + 1, 65536, -65536};

    static void same(String what, double got, double due) {
        Check.same(what, got, due);
    }

    static void badIndex(String what, Check.Call call) {
        Check.refused(what, IndexOutOfBoundsException.class, call);
    }

    static void badArgument(String what, Check.Call call) {
        Check.refused(what, IllegalArgumentException.class, call);
    }

    static void badState(String what, Check.Call call) {
        Check.refused(what, IllegalStateException.class, call);
    }

    static CellLoans made(String text) {
        return Sheet.made(text);
    }

    static String repeated(String part, int times) {
        return Sheet.repeated(part, times);
    }

    /** Looks at lender, borrower, cells and when it falls due. */
    static void promise(CellLoans x, int i, int... due) {
        for (int what = 0; what < due.length; what++) {
            same("promise " + i + ", " + what, x.promise(i, what), due[what]);
        }
    }

    /** Looks at the port, the cells, the reason, who was charged, and when it was. */
    static void drop(CellLoans x, int i, int... due) {
        for (int what = 0; what < due.length; what++) {
            same("drop " + i + ", " + what, x.drop(i, what), due[what]);
        }
    }

    /** Looks at the cells yet of all packets of a queue. */
    static void queue(CellLoans x, int port, int... due) {
        same("packets of port " + port, x.port(port, 9), due.length);
        for (int i = 0; i < due.length && i < x.port(port, 9); i++) {
            same("packet " + i + " of port " + port, x.packet(port, i, 0), due[i]);
        }
    }

    /** Six ports that have lent all their cells, each cell by a promise of its own: more promises there can't be. */
    static CellLoans allLent() {
        CellLoans x = made("port aaaaaaaa 40 9;port bbbbbbbb 40 9;port cccccccc 40 0;port dddddddd 40 0;"
                + "port eeeeeeee 40 0;port ffffffff 40 0;term 99;keep 0;");
        x.arrive(0, 40);
        for (int i = 0; i < 4; i++) {
            Sheet.run(x, "repeat 2(repeat 20(arrive aaaaaaaa 1;););");
        }
        Sheet.run(x, "repeat 20(arrive aaaaaaaa 1;);repeat 15(arrive aaaaaaaa 1;);");
        x.tick(27);
        // Only above its share a port borrows single cells: a loan that soon falls due takes port 1 there.
        for (int room = 1; room < 40; room += 4) {
            x.setTerm(6);
            x.arrive(1, room);
            x.arrive(1, 41 - room);
            x.setTerm(99);
            singleCells(x, 1, 4);
            x.tick(6);
        }
        x.arrive(1, 40);
        singleCells(x, 1, 5);
        x.tick(5);
        for (int i = 0; i < 4; i++) {
            x.arrive(0, 40);
        }
        x.arrive(0, 35);
        x.arrive(0, 1);
        return x;
    }

    private static void singleCells(CellLoans x, int port, int packets) {
        for (int i = 0; i < packets; i++) {
            x.arrive(port, 1);
        }
    }

    /** The report of that switch. */
    static String reportOfAllLent() {
        String toA = " aaaaaaaa:1";
        String toBoth = " 0/0" + repeated(toA, 39) + " bbbbbbbb:1\n";
        return "aaaaaaaa 196/196" + repeated(" bbbbbbbb:1", 40) + "\nbbbbbbbb 0/44" + repeated(toA, 40) + "\ncccccccc"
                + toBoth + "dddddddd" + toBoth + "eeeeeeee" + toBoth + "ffffffff" + toBoth;
    }

    /** Brings the clock of a switch to a time, with few calls. */
    static void clock(CellLoans x, int time) {
        for (int calls = 0; calls < 200 && x.setting(3) < time; calls++) {
            x.tick(Math.min(99, time - x.setting(3)));
        }
    }
}
