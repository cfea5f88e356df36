/**
 * A packet switch whose ports lend one another buffer cells.
 * What each call must do stands, as numbered promises, in ../shared/DOC.md.
 */
public final class CellLoans {

    public static final int NONE = -1;

    private static final int DROPPED = -2;
    private static final int MOST_PORTS = 6;
    private static final int MOST_SHARE = 40;
    private static final int MOST_RATE = 9;
    private static final int MOST_FIRST = 40;
    private static final int MOST_CELLS = 40;
    private static final int MOST_TERM = 99;
    private static final int MOST_KEEP = 200;
    private static final int MOST_TICKS = 99;
    private static final int MOST_TICKS_AHEAD = 200;
    private static final int LATEST_CLOCK = 9999;
    private static final int FORESEEN_TICKS = 500;
    private static final int FIRST_TERM = 4;
    private static final int FIRST_KEEP = 100;
    private static final int SIXTEENTHS = 16;

    /** Packets and promises have a cell each at least, and all of them together no more than all shares. */
    private static final int MOST_ROWS = MOST_PORTS * MOST_SHARE;

    private final Text text = new Text();
    private final SwitchReader switchReader = new SwitchReader();
    private final Script script = new Script();
    private final Switch now = new Switch();
    /** Where texts are read and what would happen is tried, so that a failure or a question changes nothing. */
    private final Switch trial = new Switch();
    private final Switch saved = new Switch();
    private boolean somethingSaved;
    private final History history = new History();
    private final Report latestReport = new Report();

    public CellLoans() {
    }

    // ---- texts

    public int feed(int a, int b, int c, int d, int e) throws IllegalStateException {
        if (text.length + Text.FED_BYTES > Text.MOST_BYTES) {
            throw new IllegalStateException("the buffer would hold more than 600 bytes");
        }
        text.append(a);
        text.append(b);
        text.append(c);
        text.append(d);
        text.append(e);
        return text.length;
    }

    public int truncate(int length) throws IllegalArgumentException {
        needWithin(length, 0, text.length);
        text.length = length;
        return length;
    }

    public int readText() throws IllegalArgumentException {
        boolean read = switchReader.readFrom(text, trial);
        text.length = 0;
        if (!read) {
            throw new IllegalArgumentException("the text has an error");
        }
        now.copyFrom(trial);
        history.forget();
        return now.portCount;
    }

    public int runScript() throws IllegalArgumentException {
        boolean read = script.readFrom(text, now);
        text.length = 0;
        if (!read) {
            throw new IllegalArgumentException("the script has an error");
        }
        history.remember(now);
        int done = 0;
        while (done < script.count && doCommand(done) != NONE) {
            done++;
        }
        return done;
    }

    public int errorCode() {
        return text.errorCode;
    }

    public int errorPosition() {
        return text.errorPosition;
    }

    // ---- the switch

    public int setting(int what) throws IllegalArgumentException {
        needWithin(what, 0, 11);
        switch (what) {
            case 0: return now.portCount;
            case 1: return now.term;
            case 2: return now.keep;
            case 3: return now.clock;
            case 4: return now.sumOfPorts(Port.SHARE);
            case 5: return now.sumOfPorts(Port.CELLS);
            case 6: return now.sumOfPorts(Port.LENT);
            case 7: return now.sumOfPorts(Port.FREE);
            case 8: return now.promises.count;
            case 9: return now.sumOfPorts(Port.WAITING);
            case 10: return now.ledger.total;
            default: return now.arrived;
        }
    }

    public int port(int port, int what) throws IndexOutOfBoundsException, IllegalArgumentException {
        needPort(port);
        needWithin(what, 0, Port.SENT);
        return now.ports[port].number(what, now.keep);
    }

    public int packet(int port, int i, int what) throws IndexOutOfBoundsException, IllegalArgumentException {
        needPort(port);
        Port of = now.ports[port];
        needIndex(i, of.waiting);
        needWithin(what, 0, 2);
        switch (what) {
            case 0: return of.left[i];
            case 1: return of.had[i];
            default: return of.came[i];
        }
    }

    public int promise(int i, int what) throws IndexOutOfBoundsException, IllegalArgumentException {
        needIndex(i, now.promises.count);
        needWithin(what, 0, 3);
        switch (what) {
            case 0: return now.promises.lender[i];
            case 1: return now.promises.borrower[i];
            case 2: return now.promises.cells[i];
            default: return now.promises.due[i];
        }
    }

    public int owed(int port, int other) throws IndexOutOfBoundsException {
        needPort(port);
        needPort(other);
        return now.promises.cellsBetween(port, other);
    }

    public int drop(int i, int what) throws IllegalArgumentException {
        needWithin(what, 0, 4);
        return now.ledger.number(i, what);
    }

    public int dropsBy(int reason) throws IllegalArgumentException {
        needWithin(reason, 1, 3);
        return now.ledger.byReason[reason];
    }

    public int mostCharged() {
        int most = NONE;
        for (int p = 0; p < now.portCount; p++) {
            if (most == NONE || now.ports[p].charged > now.ports[most].charged) {
                most = p;
            }
        }
        return most;
    }

    public float lossShare() {
        if (now.arrived == 0) {
            return 0.0f;
        }
        return (float) now.ledger.total / (float) now.arrived;
    }

    public double meanForecast() {
        if (now.portCount == 0) {
            return 0.0;
        }
        return (double) now.sumOfPorts(Port.FORECAST) / (double) (SIXTEENTHS * now.portCount);
    }

    // ---- what would happen and what will come; nothing changes

    public int wouldBorrow(int port, int cells) throws IndexOutOfBoundsException, IllegalArgumentException {
        needPort(port);
        needWithin(cells, 1, MOST_CELLS);
        int way = now.wayOf(port, cells);
        if (way == Switch.REFUSES) {
            return NONE;
        }
        return way == Switch.BORROWS ? now.missing(port, cells) : 0;
    }

    public int wouldCall(int port, int cells) throws IndexOutOfBoundsException, IllegalArgumentException {
        needPort(port);
        needWithin(cells, 1, MOST_CELLS);
        return now.wayOf(port, cells) == Switch.CALLS_IN ? now.missing(port, cells) : 0;
    }

    public int wouldDrop(int port, int cells) throws IndexOutOfBoundsException, IllegalArgumentException {
        needPort(port);
        needWithin(cells, 1, MOST_CELLS);
        trial.copyFrom(now);
        trial.admit(port, cells);
        return trial.ledger.total - now.ledger.total;
    }

    public int greatest(int port) throws IndexOutOfBoundsException {
        needPort(port);
        Port at = now.ports[port];
        int byCalling = at.share - at.cells;
        int byBorrowing = at.free() + now.lendableTo(port);
        return Math.min(MOST_CELLS, Math.max(byCalling, byBorrowing));
    }

    public int dropsIn(int ticks) throws IllegalArgumentException {
        needWithin(ticks, 0, MOST_TICKS_AHEAD);
        trial.copyFrom(now);
        // Without arrivals only a promise that falls due drops packets.
        for (int t = 0; t < ticks && trial.promises.count > 0; t++) {
            trial.passTick();
        }
        return trial.ledger.total - now.ledger.total;
    }

    public int emptyIn() {
        trial.copyFrom(now);
        int ticks = 0;
        while (ticks < FORESEEN_TICKS && trial.sumOfPorts(Port.WAITING) > 0) {
            trial.passTick();
            ticks++;
        }
        return trial.sumOfPorts(Port.WAITING) == 0 ? ticks : NONE;
    }

    public int sentIn(int port, int i) throws IndexOutOfBoundsException {
        needPort(port);
        needIndex(i, now.ports[port].waiting);
        trial.copyFrom(now);
        Port at = trial.ports[port];
        // Packets are sent from the front and dropped from the back: the packet has been sent
        // when this many cells have been, and was dropped when they are no longer to be had.
        int sentWithIt = at.sent + at.cellsUpTo(i);
        for (int ticks = 1; ticks <= FORESEEN_TICKS; ticks++) {
            trial.passTick();
            if (at.sent >= sentWithIt) {
                return ticks;
            }
            if (at.sent + at.cells < sentWithIt) {
                return NONE;
            }
        }
        return NONE;
    }

    // ---- changes

    public int arrive(int port, int cells) throws IndexOutOfBoundsException, IllegalArgumentException {
        needPort(port);
        needWithin(cells, 1, MOST_CELLS);
        history.remember(now);
        return now.admit(port, cells);
    }

    public int tick(int ticks) throws IllegalArgumentException {
        needWithin(ticks, 1, MOST_TICKS);
        if (!now.mayPass(ticks)) {
            return NONE;
        }
        history.remember(now);
        return now.passTicks(ticks);
    }

    public int giveBack(int port, int other, int cells)
            throws IndexOutOfBoundsException, IllegalArgumentException, IllegalStateException {
        needPort(port);
        needPort(other);
        needWithin(cells, 1, MOST_CELLS);
        if (!now.mayReturn(port, other, cells)) {
            throw new IllegalStateException("the port owes fewer cells or has fewer free ones");
        }
        history.remember(now);
        return now.returnCells(port, other, cells);
    }

    public int extend(int i) throws IndexOutOfBoundsException, IllegalStateException {
        needIndex(i, now.promises.count);
        if (!now.mayProlong(i)) {
            throw new IllegalStateException("the lender has less than it keeps back");
        }
        history.remember(now);
        return now.prolong(i);
    }

    public int setTerm(int term) throws IllegalArgumentException {
        needWithin(term, 1, MOST_TERM);
        history.remember(now);
        return now.changeTerm(term);
    }

    public int setKeep(int keep) throws IllegalArgumentException {
        needWithin(keep, 0, MOST_KEEP);
        history.remember(now);
        return now.changeKeep(keep);
    }

    // ---- undo, reports, saving

    public int undo() {
        if (history.kept == 0) {
            return NONE;
        }
        history.bringBack(now);
        return history.kept;
    }

    public int report() {
        latestReport.write(now);
        return latestReport.length;
    }

    public int reportByte(int i) throws IndexOutOfBoundsException {
        needIndex(i, latestReport.length);
        return latestReport.bytes[i];
    }

    public int save() {
        saved.copyFrom(now);
        somethingSaved = true;
        return now.clock;
    }

    public int restore() throws IllegalStateException {
        if (!somethingSaved) {
            throw new IllegalStateException("nothing was saved");
        }
        now.copyFrom(saved);
        history.forget();
        return now.clock;
    }

    // ---- what several calls need

    private static boolean within(int number, int least, int most) {
        return number >= least && number <= most;
    }

    private static void needWithin(int number, int least, int most) {
        if (!within(number, least, most)) {
            throw new IllegalArgumentException("a number is out of its range");
        }
    }

    private static void needIndex(int i, int count) {
        if (i < 0 || i >= count) {
            throw new IndexOutOfBoundsException("there is none of this number");
        }
    }

    private void needPort(int port) {
        needIndex(port, now.portCount);
    }

    /** Does a command of the script; answers NONE where the method that it stands for would throw or return NONE. */
    private int doCommand(int i) {
        int number = script.number[i];
        switch (script.verb[i]) {
            case Script.ARRIVE:
                return within(number, 1, MOST_CELLS) ? now.admit(script.port[i], number) : NONE;
            case Script.TICK:
                return within(number, 1, MOST_TICKS) && now.mayPass(number) ? now.passTicks(number) : NONE;
            case Script.BACK:
                return mayDoBack(i) ? now.returnCells(script.port[i], script.other[i], number) : NONE;
            case Script.EXTEND:
                return number < now.promises.count && now.mayProlong(number) ? now.prolong(number) : NONE;
            case Script.TERM:
                return within(number, 1, MOST_TERM) ? now.changeTerm(number) : NONE;
            case Script.KEEP:
                return within(number, 0, MOST_KEEP) ? now.changeKeep(number) : NONE;
            default:
                return NONE;
        }
    }

    private boolean mayDoBack(int i) {
        return within(script.number[i], 1, MOST_CELLS)
                && now.mayReturn(script.port[i], script.other[i], script.number[i]);
    }

    /** The buffer, read token by token, and the error that was found in it last. */
    private static final class Text {
        static final int MOST_BYTES = 600;
        static final int FED_BYTES = 20;
        static final int MOST_LETTERS = 8;
        static final int MOST_DIGITS = 4;

        static final int WRONG_TOKEN = 1;
        static final int OUT_OF_RANGE = 2;

        static final int AT_END = 0;
        static final int WORD = 1;
        static final int NUMBER = 2;
        static final int SIGN = 3;
        static final int BLANK = 4;
        static final int WRONG = 5;

        final int[] bytes = new int[MOST_BYTES];
        int length;
        int errorCode;
        int errorPosition = NONE;
        /** The index of the first byte that is not read yet. */
        int unread;
        int kind;
        int start;
        /** The bytes of the token, so that reading makes no objects: eight letters fill it. */
        long word;
        int number;

        void append(int fourBytes) {
            for (int shift = 24; shift >= 0 && length < MOST_BYTES; shift -= 8) {
                bytes[length] = fourBytes >>> shift & 255;
                length++;
            }
        }

        void begin() {
            unread = 0;
            errorCode = 0;
            errorPosition = NONE;
        }

        /** Always false, so that a reader can return it. */
        boolean fail(int code) {
            errorCode = code;
            errorPosition = start;
            return false;
        }

        void advance() {
            while (unread < length && kindOf(bytes[unread]) == BLANK) {
                unread++;
            }
            start = unread;
            kind = unread < length ? kindOf(bytes[unread]) : AT_END;
            word = 0;
            number = 0;
            // Only words and numbers have more than one byte.
            boolean isRun = kind == WORD || kind == NUMBER;
            while (unread < length && (unread == start || isRun && kindOf(bytes[unread]) == kind)) {
                word = word << 8 | bytes[unread];
                number = number * 10 + bytes[unread] - '0';
                unread++;
            }
            if (isTooLong()) {
                kind = WRONG;
            }
        }

        boolean isTooLong() {
            int most = kind == WORD ? MOST_LETTERS : MOST_DIGITS;
            return unread - start > most;
        }

        static int kindOf(int b) {
            if (b == ' ' || b == '\n') {
                return BLANK;
            }
            if (b >= 'a' && b <= 'z') {
                return WORD;
            }
            if (b >= '0' && b <= '9') {
                return NUMBER;
            }
            return b == ';' || b == '(' || b == ')' ? SIGN : WRONG;
        }

        boolean takeName() {
            advance();
            return kind == WORD || fail(WRONG_TOKEN);
        }

        boolean takeNumber(int least, int most) {
            advance();
            if (kind != NUMBER) {
                return fail(WRONG_TOKEN);
            }
            return within(number, least, most) || fail(OUT_OF_RANGE);
        }

        boolean takeSign(char wanted) {
            advance();
            return isSign(wanted) || fail(WRONG_TOKEN);
        }

        boolean isSign(char wanted) {
            return kind == SIGN && word == wanted;
        }

        boolean isWord(String wanted) {
            long letters = 0;
            for (int i = 0; i < wanted.length(); i++) {
                letters = letters << 8 | wanted.charAt(i);
            }
            return kind == WORD && word == letters;
        }
    }

    /** Reads a text as a switch. */
    private static final class SwitchReader {
        static final int SEEN_BEFORE = 3;
        static final int PORT_TOO_MANY = 4;

        boolean termRead;
        boolean keepRead;

        boolean readFrom(Text text, Switch into) {
            termRead = false;
            keepRead = false;
            into.clear();
            text.begin();
            // Each statement takes a byte at least.
            for (int statements = 0; statements <= Text.MOST_BYTES; statements++) {
                text.advance();
                if (text.kind == Text.AT_END) {
                    return true;
                }
                if (!readStatement(text, into)) {
                    return false;
                }
            }
            return false;
        }

        boolean readStatement(Text text, Switch into) {
            if (text.isWord("port")) {
                return readPort(text, into);
            }
            if (text.isWord("term")) {
                return readTerm(text, into);
            }
            if (text.isWord("keep")) {
                return readKeep(text, into);
            }
            return text.fail(Text.WRONG_TOKEN);
        }

        boolean readPort(Text text, Switch into) {
            if (into.portCount >= MOST_PORTS) {
                return text.fail(PORT_TOO_MANY);
            }
            if (!text.takeName()) {
                return false;
            }
            long name = text.word;
            if (into.portNamed(name) != NONE) {
                return text.fail(SEEN_BEFORE);
            }
            if (!text.takeNumber(0, MOST_SHARE)) {
                return false;
            }
            int share = text.number;
            if (!text.takeNumber(0, MOST_RATE)) {
                return false;
            }
            int rate = text.number;
            int first = 0;
            text.advance();
            if (text.isWord("first")) {
                if (!text.takeNumber(0, MOST_FIRST)) {
                    return false;
                }
                first = text.number;
                text.advance();
            }
            into.addPort(name, share, rate, first);
            return text.isSign(';') || text.fail(Text.WRONG_TOKEN);
        }

        boolean readTerm(Text text, Switch into) {
            if (termRead) {
                return text.fail(SEEN_BEFORE);
            }
            if (!text.takeNumber(1, MOST_TERM)) {
                return false;
            }
            termRead = true;
            into.term = text.number;
            return text.takeSign(';');
        }

        boolean readKeep(Text text, Switch into) {
            if (keepRead) {
                return text.fail(SEEN_BEFORE);
            }
            if (!text.takeNumber(0, MOST_KEEP)) {
                return false;
            }
            keepRead = true;
            into.keep = text.number;
            return text.takeSign(';');
        }
    }

    /**
     * A script, with its repeats written out: no more commands are kept than may be done.
     * So "repeat" is only known while the text is read.
     */
    private static final class Script {
        static final int ARRIVE = 0;
        static final int TICK = 1;
        static final int BACK = 2;
        static final int EXTEND = 3;
        static final int TERM = 4;
        static final int KEEP = 5;
        static final int REPEAT = 6;

        static final int MOST_DONE = 40;
        static final int MOST_WRITTEN = 30;
        static final int MOST_REPEATS = 20;
        static final int MOST_OPEN = 2;
        static final int MOST_NUMBER = 9999;

        static final int TOO_DEEP = 3;
        static final int COMMAND_TOO_MANY = 4;
        static final int UNKNOWN_NAME = 5;

        final int[] verb = new int[MOST_DONE];
        final int[] port = new int[MOST_DONE];
        final int[] other = new int[MOST_DONE];
        final int[] number = new int[MOST_DONE];
        int count;
        int written;
        /** The repeats whose brackets are open: where the body of each begins, and how often it is done. */
        final int[] bodyStart = new int[MOST_OPEN];
        final int[] times = new int[MOST_OPEN];
        int open;

        boolean readFrom(Text text, Switch names) {
            count = 0;
            written = 0;
            open = 0;
            text.begin();
            // Each command and each closing bracket takes a byte at least.
            for (int parts = 0; parts <= Text.MOST_BYTES; parts++) {
                text.advance();
                if (open == 0 && text.kind == Text.AT_END) {
                    return true;
                }
                boolean closing = open > 0 && text.isSign(')');
                if (!(closing ? closeRepeat(text) : readCommand(text, names))) {
                    return false;
                }
            }
            return false;
        }

        boolean readCommand(Text text, Switch names) {
            int read = verbOf(text);
            if (read == NONE) {
                return text.fail(Text.WRONG_TOKEN);
            }
            if (read == REPEAT && open >= MOST_OPEN) {
                return text.fail(TOO_DEEP);
            }
            if (written >= MOST_WRITTEN) {
                return text.fail(COMMAND_TOO_MANY);
            }
            written++;
            return read == REPEAT ? openRepeat(text) : readPlain(read, text, names);
        }

        static int verbOf(Text text) {
            if (text.isWord("arrive")) {
                return ARRIVE;
            }
            if (text.isWord("tick")) {
                return TICK;
            }
            if (text.isWord("back")) {
                return BACK;
            }
            if (text.isWord("extend")) {
                return EXTEND;
            }
            if (text.isWord("term")) {
                return TERM;
            }
            if (text.isWord("keep")) {
                return KEEP;
            }
            return text.isWord("repeat") ? REPEAT : NONE;
        }

        boolean readPlain(int read, Text text, Switch names) {
            int first = NONE;
            int second = NONE;
            if (read == ARRIVE || read == BACK) {
                first = takePort(text, names);
                if (first == NONE) {
                    return false;
                }
            }
            if (read == BACK) {
                second = takePort(text, names);
                if (second == NONE) {
                    return false;
                }
            }
            if (!text.takeNumber(0, MOST_NUMBER)) {
                return false;
            }
            add(read, first, second, text.number);
            return text.takeSign(';');
        }

        /** NONE after an error. */
        static int takePort(Text text, Switch names) {
            text.advance();
            if (text.kind != Text.WORD) {
                text.fail(Text.WRONG_TOKEN);
                return NONE;
            }
            int found = names.portNamed(text.word);
            if (found == NONE) {
                text.fail(UNKNOWN_NAME);
            }
            return found;
        }

        boolean openRepeat(Text text) {
            if (!text.takeNumber(1, MOST_REPEATS)) {
                return false;
            }
            times[open] = text.number;
            bodyStart[open] = count;
            open++;
            return text.takeSign('(');
        }

        boolean closeRepeat(Text text) {
            open--;
            int start = bodyStart[open];
            int end = count;
            for (int done = 1; done < times[open]; done++) {
                for (int i = start; i < end; i++) {
                    add(verb[i], port[i], other[i], number[i]);
                }
            }
            return text.takeSign(';');
        }

        void add(int aVerb, int aPort, int anOther, int aNumber) {
            if (count < MOST_DONE) {
                verb[count] = aVerb;
                port[count] = aPort;
                other[count] = anOther;
                number[count] = aNumber;
                count++;
            }
        }
    }

    /** All that changes and undo brings back: the ports, the promises, the ledger, the clock. */
    private static final class Switch {
        /** What an arriving packet finds. */
        static final int FITS = 0;
        static final int CALLS_IN = 1;
        static final int BORROWS = 2;
        static final int REFUSES = 3;

        static final int ANYONE = -1;

        final Port[] ports = new Port[MOST_PORTS];
        int portCount;
        int term = FIRST_TERM;
        int keep = FIRST_KEEP;
        int clock;
        int arrived;
        final Promises promises = new Promises();
        final Ledger ledger = new Ledger();

        Switch() {
            for (int p = 0; p < MOST_PORTS; p++) {
                ports[p] = new Port();
            }
        }

        void clear() {
            portCount = 0;
            term = FIRST_TERM;
            keep = FIRST_KEEP;
            clock = 0;
            arrived = 0;
            promises.count = 0;
            ledger.clear();
        }

        void copyFrom(Switch from) {
            portCount = from.portCount;
            term = from.term;
            keep = from.keep;
            clock = from.clock;
            arrived = from.arrived;
            for (int p = 0; p < portCount; p++) {
                ports[p].copyFrom(from.ports[p]);
            }
            promises.copyFrom(from.promises);
            ledger.copyFrom(from.ledger);
        }

        void addPort(long name, int share, int rate, int first) {
            if (portCount < MOST_PORTS) {
                ports[portCount].become(name, share, rate, first);
                portCount++;
            }
        }

        int portNamed(long name) {
            for (int p = 0; p < portCount; p++) {
                if (ports[p].name == name) {
                    return p;
                }
            }
            return NONE;
        }

        int sumOfPorts(int what) {
            int sum = 0;
            for (int p = 0; p < portCount; p++) {
                sum += ports[p].number(what, keep);
            }
            return sum;
        }

        /** The cells that all other ports together can lend to a port. */
        int lendableTo(int borrower) {
            int sum = 0;
            for (int p = 0; p < portCount; p++) {
                if (p != borrower) {
                    sum += ports[p].canLend(keep);
                }
            }
            return sum;
        }

        int missing(int port, int cells) {
            return cells - ports[port].free();
        }

        int wayOf(int port, int cells) {
            Port at = ports[port];
            if (missing(port, cells) <= 0) {
                return FITS;
            }
            if (at.cells + cells <= at.share) {
                return CALLS_IN;
            }
            return missing(port, cells) <= lendableTo(port) ? BORROWS : REFUSES;
        }

        /** Lets a packet arrive; answers the cells that were borrowed for it, or DROPPED. */
        int admit(int port, int cells) {
            int way = wayOf(port, cells);
            int missing = missing(port, cells);
            arrived++;
            ports[port].burst += cells;
            if (way == REFUSES) {
                recordDrop(port, cells, Ledger.REFUSED);
                return DROPPED;
            }
            if (way == CALLS_IN) {
                collect(port, ANYONE, missing);
            }
            if (way == BORROWS) {
                borrow(port, missing);
            }
            ports[port].append(cells, clock);
            return way == BORROWS ? missing : 0;
        }

        void borrow(int port, int cells) {
            int missing = cells;
            for (int round = 0; round < portCount && missing > 0; round++) {
                int lender = bestLender(port);
                if (lender == NONE) {
                    return;
                }
                int part = Math.min(missing, ports[lender].canLend(keep));
                ports[lender].lent += part;
                ports[port].borrowed += part;
                promises.insert(lender, port, part, clock + term);
                missing -= part;
            }
        }

        int bestLender(int borrower) {
            int best = NONE;
            int most = 0;
            for (int p = 0; p < portCount; p++) {
                if (p != borrower && ports[p].canLend(keep) > most) {
                    best = p;
                    most = ports[p].canLend(keep);
                }
            }
            return best;
        }

        /** Gets cells back before they fall due, from the first promises first. */
        void collect(int lender, int borrower, int cells) {
            int missing = cells;
            int i = 0;
            for (int left = promises.count; left > 0 && missing > 0; left--) {
                if (promises.isBetween(i, lender, borrower)) {
                    int part = Math.min(missing, promises.cells[i]);
                    missing -= part;
                    // Either this promise is gone and the next one has its place, or nothing is missing.
                    takeBack(i, part, Ledger.CALLED_IN);
                } else {
                    i++;
                }
            }
        }

        void takeBack(int promise, int cells, int reason) {
            int lender = promises.lender[promise];
            int borrower = promises.borrower[promise];
            Port owing = ports[borrower];
            ports[lender].lent -= cells;
            owing.borrowed -= cells;
            promises.cells[promise] -= cells;
            if (promises.cells[promise] == 0) {
                promises.remove(promise);
            }
            for (int left = owing.waiting; left > 0 && owing.free() < 0; left--) {
                recordDrop(borrower, owing.removeNewest(), reason);
            }
        }

        void recordDrop(int port, int cells, int reason) {
            ports[port].dropped++;
            ports[port].charged += cells;
            ledger.add(port, cells, reason, clock);
        }

        boolean mayPass(int ticks) {
            return clock + ticks <= LATEST_CLOCK;
        }

        int passTicks(int ticks) {
            for (int t = 0; t < ticks; t++) {
                passTick();
            }
            return clock;
        }

        void passTick() {
            clock++;
            for (int left = promises.count; left > 0 && promises.due[0] <= clock; left--) {
                takeBack(0, promises.cells[0], Ledger.FELL_DUE);
            }
            for (int p = 0; p < portCount; p++) {
                ports[p].sendFirst();
            }
            for (int p = 0; p < portCount; p++) {
                ports[p].learn();
            }
        }

        boolean mayReturn(int port, int other, int cells) {
            return promises.cellsBetween(other, port) >= cells && ports[port].free() >= cells;
        }

        int returnCells(int port, int other, int cells) {
            collect(other, port, cells);
            return promises.cellsBetween(other, port);
        }

        boolean mayProlong(int promise) {
            Port lender = ports[promises.lender[promise]];
            return lender.ownLeft() >= lender.keptBack(keep);
        }

        int prolong(int promise) {
            int due = promises.due[promise] + term;
            int lender = promises.lender[promise];
            int borrower = promises.borrower[promise];
            int cells = promises.cells[promise];
            promises.remove(promise);
            promises.insert(lender, borrower, cells, due);
            return due;
        }

        int changeTerm(int to) {
            int before = term;
            term = to;
            return before;
        }

        int changeKeep(int to) {
            int before = keep;
            keep = to;
            return before;
        }
    }

    /** A port and its queue: the packets that wait, in the order in which they came. */
    private static final class Port {
        static final int SHARE = 0;
        static final int CELLS = 2;
        static final int FREE = 3;
        static final int LENT = 4;
        static final int FORECAST = 7;
        static final int WAITING = 9;
        static final int SENT = 12;

        static final int FORECAST_WEIGHT = 4;
        /** A forecast in sixteenths, kept back in percent. */
        static final long KEEP_PARTS = 1600;

        long name;
        int share;
        int rate;
        int forecast;
        /** The cells of all packets that arrived since the latest tick. */
        int burst;
        int cells;
        int lent;
        int borrowed;
        int dropped;
        int charged;
        int sent;
        int waiting;
        final int[] left = new int[MOST_ROWS];
        final int[] had = new int[MOST_ROWS];
        final int[] came = new int[MOST_ROWS];

        void become(long itsName, int itsShare, int itsRate, int first) {
            name = itsName;
            share = itsShare;
            rate = itsRate;
            forecast = first * SIXTEENTHS;
            burst = 0;
            cells = 0;
            lent = 0;
            borrowed = 0;
            dropped = 0;
            charged = 0;
            sent = 0;
            waiting = 0;
        }

        void copyFrom(Port from) {
            name = from.name;
            share = from.share;
            rate = from.rate;
            forecast = from.forecast;
            burst = from.burst;
            cells = from.cells;
            lent = from.lent;
            borrowed = from.borrowed;
            dropped = from.dropped;
            charged = from.charged;
            sent = from.sent;
            waiting = from.waiting;
            for (int i = 0; i < waiting; i++) {
                left[i] = from.left[i];
                had[i] = from.had[i];
                came[i] = from.came[i];
            }
        }

        int number(int what, int keep) {
            switch (what) {
                case SHARE: return share;
                case 1: return rate;
                case CELLS: return cells;
                case FREE: return free();
                case LENT: return lent;
                case 5: return borrowed;
                case 6: return canLend(keep);
                case FORECAST: return forecast;
                case 8: return keptBack(keep);
                case WAITING: return waiting;
                case 10: return dropped;
                case 11: return charged;
                default: return sent;
            }
        }

        int room() {
            return share - lent + borrowed;
        }

        int free() {
            return room() - cells;
        }

        int keptBack(int keep) {
            return (int) (((long) forecast * keep + KEEP_PARTS - 1) / KEEP_PARTS);
        }

        /** What is left of its own share, without what it borrowed. */
        int ownLeft() {
            return share - lent - cells;
        }

        int canLend(int keep) {
            return Math.max(0, ownLeft() - keptBack(keep));
        }

        void append(int packetCells, int clock) {
            if (waiting < MOST_ROWS) {
                left[waiting] = packetCells;
                had[waiting] = packetCells;
                came[waiting] = clock;
                waiting++;
                cells += packetCells;
            }
        }

        /** Answers the cells that the packet had yet. */
        int removeNewest() {
            if (waiting == 0) {
                return 0;
            }
            waiting--;
            cells -= left[waiting];
            return left[waiting];
        }

        void sendFirst() {
            int sending = Math.min(rate, cells);
            cells -= sending;
            sent += sending;
            int whole = 0;
            for (int i = 0; i < waiting && sending > 0; i++) {
                int part = Math.min(sending, left[i]);
                sending -= part;
                left[i] -= part;
                if (left[i] == 0) {
                    whole++;
                }
            }
            removeFirst(whole);
        }

        void removeFirst(int count) {
            if (count == 0) {
                return;
            }
            for (int i = count; i < waiting; i++) {
                left[i - count] = left[i];
                had[i - count] = had[i];
                came[i - count] = came[i];
            }
            waiting -= count;
        }

        void learn() {
            forecast += (SIXTEENTHS * burst - forecast) / FORECAST_WEIGHT;
            burst = 0;
        }

        /** The cells of packet i and of those before it. */
        int cellsUpTo(int i) {
            int sum = 0;
            for (int k = 0; k <= i && k < waiting; k++) {
                sum += left[k];
            }
            return sum;
        }
    }

    /** The promises in their order. */
    private static final class Promises {
        final int[] lender = new int[MOST_ROWS];
        final int[] borrower = new int[MOST_ROWS];
        final int[] cells = new int[MOST_ROWS];
        final int[] due = new int[MOST_ROWS];
        int count;

        void copyFrom(Promises from) {
            count = from.count;
            for (int i = 0; i < count; i++) {
                place(i, from, i);
            }
        }

        void place(int to, Promises from, int i) {
            lender[to] = from.lender[i];
            borrower[to] = from.borrower[i];
            cells[to] = from.cells[i];
            due[to] = from.due[i];
        }

        /** Puts a promise behind all that fall due no later. */
        void insert(int itsLender, int itsBorrower, int itsCells, int itsDue) {
            if (count >= MOST_ROWS) {
                return;
            }
            int at = count;
            while (at > 0 && due[at - 1] > itsDue) {
                place(at, this, at - 1);
                at--;
            }
            lender[at] = itsLender;
            borrower[at] = itsBorrower;
            cells[at] = itsCells;
            due[at] = itsDue;
            count++;
        }

        void remove(int i) {
            if (count > 0) {
                count--;
                for (int k = i; k < count; k++) {
                    place(k, this, k + 1);
                }
            }
        }

        boolean isBetween(int i, int aLender, int aBorrower) {
            return lender[i] == aLender && (aBorrower == Switch.ANYONE || borrower[i] == aBorrower);
        }

        int cellsBetween(int aLender, int aBorrower) {
            int sum = 0;
            for (int i = 0; i < count; i++) {
                if (isBetween(i, aLender, aBorrower)) {
                    sum += cells[i];
                }
            }
            return sum;
        }
    }

    /** The latest drops, and how many there were of each reason. */
    private static final class Ledger {
        static final int REFUSED = 1;
        static final int CALLED_IN = 2;
        static final int FELL_DUE = 3;

        static final int MOST_KEPT = 20;

        /** The port that is charged is always the one whose packet it was: one row tells both. */
        final int[] port = new int[MOST_KEPT];
        final int[] cells = new int[MOST_KEPT];
        final int[] reason = new int[MOST_KEPT];
        final int[] when = new int[MOST_KEPT];
        final int[] byReason = new int[FELL_DUE + 1];
        int total;

        void clear() {
            total = 0;
            for (int r = REFUSED; r <= FELL_DUE; r++) {
                byReason[r] = 0;
            }
        }

        void copyFrom(Ledger from) {
            total = from.total;
            for (int r = REFUSED; r <= FELL_DUE; r++) {
                byReason[r] = from.byReason[r];
            }
            for (int i = 0; i < MOST_KEPT && i < total; i++) {
                port[i] = from.port[i];
                cells[i] = from.cells[i];
                reason[i] = from.reason[i];
                when[i] = from.when[i];
            }
        }

        void add(int aPort, int itsCells, int aReason, int clock) {
            int at = total % MOST_KEPT;
            port[at] = aPort;
            cells[at] = itsCells;
            reason[at] = aReason;
            when[at] = clock;
            byReason[aReason]++;
            total++;
        }

        int number(int i, int what) {
            if (i < 0 || i >= MOST_KEPT || i >= total) {
                return NONE;
            }
            int at = (total - 1 - i) % MOST_KEPT;
            switch (what) {
                case 1: return cells[at];
                case 2: return reason[at];
                case 4: return when[at];
                default: return port[at];
            }
        }
    }

    /** The switch as it was before each of the latest calls that can be undone, in a ring. */
    private static final class History {
        static final int MOST_KEPT = 6;

        final Switch[] before = new Switch[MOST_KEPT];
        int latest;
        int kept;

        History() {
            for (int i = 0; i < MOST_KEPT; i++) {
                before[i] = new Switch();
            }
        }

        void forget() {
            kept = 0;
        }

        void remember(Switch now) {
            latest = (latest + 1) % MOST_KEPT;
            before[latest].copyFrom(now);
            kept = Math.min(MOST_KEPT, kept + 1);
        }

        void bringBack(Switch now) {
            if (kept > 0) {
                now.copyFrom(before[latest]);
                latest = (latest + MOST_KEPT - 1) % MOST_KEPT;
                kept--;
            }
        }
    }

    /** The bytes of the latest report. */
    private static final class Report {
        /** Six lines of at most 17 bytes, and 240 promises of one cell with 11 bytes each. */
        static final int MOST_BYTES = 2742;

        final int[] bytes = new int[MOST_BYTES];
        int length;

        void write(Switch of) {
            length = 0;
            for (int p = 0; p < of.portCount; p++) {
                putName(of.ports[p].name);
                put(' ');
                putNumber(of.ports[p].cells);
                put('/');
                putNumber(of.ports[p].room());
                putPromisesOf(p, of);
                put('\n');
            }
        }

        void putPromisesOf(int lender, Switch of) {
            for (int i = 0; i < of.promises.count; i++) {
                if (of.promises.lender[i] == lender) {
                    put(' ');
                    putName(of.ports[of.promises.borrower[i]].name);
                    put(':');
                    putNumber(of.promises.cells[i]);
                }
            }
        }

        void putName(long name) {
            for (int shift = 56; shift >= 0; shift -= 8) {
                int letter = (int) (name >>> shift & 255);
                if (letter != 0) {
                    put(letter);
                }
            }
        }

        /** No number of a report has more than three digits. */
        void putNumber(int number) {
            if (number >= 100) {
                put('0' + number / 100 % 10);
            }
            if (number >= 10) {
                put('0' + number / 10 % 10);
            }
            put('0' + number % 10);
        }

        void put(int b) {
            if (length < MOST_BYTES) {
                bytes[length] = b;
                length++;
            }
        }
    }
}
