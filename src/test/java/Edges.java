/** What the tests of edges share: short names for what they look at, and numbers far outside of every range. */
abstract class Edges {
    static final int NONE = CellLoans.NONE;
    static final int DROPPED = -2;
    static final int[] WILD = {-1, Integer.MIN_VALUE, Integer.MAX_VALUE, Integer.MIN_VALUE + 1, 65536, -65536};

    static void same(String what, double got, double due) {
        Check.same(what, got, due);
    }

    static void badIndex(String what, Check.Call call) {
        Check.refused(what, IndexOutOfBoundsException.class, call);
    }

    static void badArgument(String what, Check.Call call) {
        Check.refused(what, IllegalArgumentException.class, call);
    }

    static void badState(String what, Check.Call call) {
        Check.refused(what, IllegalStateException.class, call);
    }

    static CellLoans made(String text) {
        return Sheet.made(text);
    }

    static String repeated(String part, int times) {
        return Sheet.repeated(part, times);
    }

    /** Looks at lender, borrower, cells and when it falls due. */
    static void promise(CellLoans x, int i, int... due) {
        for (int what = 0; what < due.length; what++) {
            same("promise " + i + ", " + what, x.promise(i, what), due[what]);
        }
    }

    /** Looks at the port, the cells, the reason, who was charged, and when it was. */
    static void drop(CellLoans x, int i, int... due) {
        for (int what = 0; what < due.length; what++) {
            same("drop " + i + ", " + what, x.drop(i, what), due[what]);
        }
    }

    /** Looks at the cells yet of all packets of a queue. */
    static void queue(CellLoans x, int port, int... due) {
        same("packets of port " + port, x.port(port, 9), due.length);
        for (int i = 0; i < due.length && i < x.port(port, 9); i++) {
            same("packet " + i + " of port " + port, x.packet(port, i, 0), due[i]);
        }
    }

    /** Brings the clock of a switch to a time, with few calls. */
    static void clock(CellLoans x, int time) {
        for (int calls = 0; calls < 200 && x.setting(3) < time; calls++) {
            x.tick(Math.min(99, time - x.setting(3)));
        }
    }
}
