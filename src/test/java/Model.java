import java.util.ArrayList;
import java.util.List;

/**
 * A second writing of the document, as plain as can be and without thought of speed or memory:
 * a copy for each question, a list for each queue. It throws as the class does.
 */
final class Model {
    static final class Packet {
        int left;
        int had;
        int came;

        Packet copy() {
            Packet p = new Packet();
            p.left = left;
            p.had = had;
            p.came = came;
            return p;
        }
    }

    static final class Port {
        String name;
        int share;
        int rate;
        int forecast;
        int burst;
        int dropped;
        int charged;
        int sent;
        List<Packet> queue = new ArrayList<>();

        Port copy() {
            Port p = new Port();
            p.name = name;
            p.share = share;
            p.rate = rate;
            p.forecast = forecast;
            p.burst = burst;
            p.dropped = dropped;
            p.charged = charged;
            p.sent = sent;
            for (Packet q : queue) {
                p.queue.add(q.copy());
            }
            return p;
        }

        int cells() {
            int sum = 0;
            for (Packet p : queue) {
                sum += p.left;
            }
            return sum;
        }
    }

    static final class Loan {
        int lender;
        int borrower;
        int cells;
        int due;
        long made;

        Loan copy() {
            Loan l = new Loan();
            l.lender = lender;
            l.borrower = borrower;
            l.cells = cells;
            l.due = due;
            l.made = made;
            return l;
        }
    }

    /** What undo brings back and save keeps. */
    static final class State {
        List<Port> ports = new ArrayList<>();
        List<Loan> loans = new ArrayList<>();
        List<int[]> drops = new ArrayList<>();
        int term = 4;
        int keep = 100;
        int clock;
        int arrived;
        long made;

        State copy() {
            State s = new State();
            for (Port p : ports) {
                s.ports.add(p.copy());
            }
            for (Loan l : loans) {
                s.loans.add(l.copy());
            }
            s.drops.addAll(drops);
            s.term = term;
            s.keep = keep;
            s.clock = clock;
            s.arrived = arrived;
            s.made = made;
            return s;
        }

        /** By when they fall due; of those that do together, the one that was put there first. */
        List<Loan> ordered() {
            List<Loan> all = new ArrayList<>(loans);
            all.sort((a, b) -> a.due != b.due ? Integer.compare(a.due, b.due) : Long.compare(a.made, b.made));
            return all;
        }

        int lent(int p) {
            int sum = 0;
            for (Loan l : loans) {
                sum += l.lender == p ? l.cells : 0;
            }
            return sum;
        }

        int borrowed(int p) {
            int sum = 0;
            for (Loan l : loans) {
                sum += l.borrower == p ? l.cells : 0;
            }
            return sum;
        }

        int room(int p) {
            return ports.get(p).share - lent(p) + borrowed(p);
        }

        int free(int p) {
            return room(p) - ports.get(p).cells();
        }

        int kept(int p) {
            int product = ports.get(p).forecast * keep;
            int whole = product / 1600;
            return whole * 1600 == product ? whole : whole + 1;
        }

        int canLend(int p) {
            int rest = ports.get(p).share - lent(p) - ports.get(p).cells() - kept(p);
            return rest < 0 ? 0 : rest;
        }

        void drop(int p, int cells, int reason) {
            ports.get(p).dropped++;
            ports.get(p).charged += cells;
            drops.add(new int[] {p, cells, reason, p, clock});
        }

        void lessen(Loan l, int cells, int reason) {
            l.cells -= cells;
            if (l.cells == 0) {
                loans.remove(l);
            }
            List<Packet> queue = ports.get(l.borrower).queue;
            while (ports.get(l.borrower).cells() > room(l.borrower)) {
                Packet newest = queue.remove(queue.size() - 1);
                drop(l.borrower, newest.left, reason);
            }
        }

        int arrive(int p, int cells) {
            arrived++;
            Port port = ports.get(p);
            port.burst += cells;
            int borrows = 0;
            if (free(p) < cells) {
                int missing = cells - free(p);
                if (port.cells() + cells <= port.share) {
                    for (Loan l : ordered()) {
                        if (l.lender == p && missing > 0) {
                            int part = Math.min(missing, l.cells);
                            missing -= part;
                            lessen(l, part, 2);
                        }
                    }
                } else {
                    int all = 0;
                    for (int o = 0; o < ports.size(); o++) {
                        all += o == p ? 0 : canLend(o);
                    }
                    if (all < missing) {
                        drop(p, cells, 1);
                        return -2;
                    }
                    borrows = missing;
                    while (missing > 0) {
                        missing -= borrowOnce(p, missing);
                    }
                }
            }
            Packet q = new Packet();
            q.left = cells;
            q.had = cells;
            q.came = clock;
            port.queue.add(q);
            return borrows;
        }

        int borrowOnce(int p, int missing) {
            int best = -1;
            for (int o = ports.size() - 1; o >= 0; o--) {
                if (o != p && (best < 0 || canLend(o) >= canLend(best))) {
                    best = o;
                }
            }
            int part = Math.min(missing, canLend(best));
            lend(best, p, part, clock + term);
            return part;
        }

        void lend(int lender, int borrower, int cells, int due) {
            Loan l = new Loan();
            l.lender = lender;
            l.borrower = borrower;
            l.cells = cells;
            l.due = due;
            l.made = made++;
            loans.add(l);
        }

        void tick() {
            clock++;
            for (Loan l : ordered()) {
                if (l.due == clock) {
                    lessen(l, l.cells, 3);
                }
            }
            for (Port p : ports) {
                for (int c = 0; c < p.rate && !p.queue.isEmpty(); c++) {
                    p.sent++;
                    p.queue.get(0).left--;
                    if (p.queue.get(0).left == 0) {
                        p.queue.remove(0);
                    }
                }
                p.forecast += (16 * p.burst - p.forecast) / 4;
                p.burst = 0;
            }
        }
    }

    State now = new State();
    State saved;
    List<State> past = new ArrayList<>();
    StringBuilder buffer = new StringBuilder();
    int errorCode = 0;
    int errorPosition = -1;
    String latestReport = "";

    // ---- texts

    /** An error of a text: code and position. */
    static final class Wrong extends RuntimeException {
        private static final long serialVersionUID = 1L;
        final int code;
        final int position;

        Wrong(int code, int position) {
            super("wrong text");
            this.code = code;
            this.position = position;
        }
    }

    /** The tokens that are still to be read. */
    private String rest;
    private int at;
    private int start;
    private int written;

    private String token() {
        while (at < rest.length() && " \n".indexOf(rest.charAt(at)) >= 0) {
            at++;
        }
        start = at;
        if (at == rest.length()) {
            throw new Wrong(1, at);
        }
        String all = rest.substring(at).replaceAll("(?s)^([a-z]+|[0-9]+|.).*$", "$1");
        at += all.length();
        if (all.matches("[a-z]{1,8}|[0-9]{1,4}|[;()]")) {
            return all;
        }
        throw new Wrong(1, start);
    }

    private boolean more() {
        return !rest.substring(at).matches("[ \n]*");
    }

    private String word() {
        String t = token();
        if (!Character.isLetter(t.charAt(0))) {
            throw new Wrong(1, start);
        }
        return t;
    }

    private int number(int least, int most) {
        String t = token();
        if (!Character.isDigit(t.charAt(0))) {
            throw new Wrong(1, start);
        }
        int n = Integer.parseInt(t);
        if (n < least || n > most) {
            throw new Wrong(2, start);
        }
        return n;
    }

    private void sign(String due) {
        if (!token().equals(due)) {
            throw new Wrong(1, start);
        }
    }

    private void begin() {
        rest = buffer.toString();
        at = 0;
        buffer.setLength(0);
        errorCode = 0;
        errorPosition = -1;
    }

    private IllegalArgumentException end(Wrong w) {
        errorCode = w.code;
        errorPosition = w.position;
        return new IllegalArgumentException();
    }

    int readText() {
        begin();
        State read;
        try {
            read = readSwitch();
        } catch (Wrong w) {
            throw end(w);
        }
        now = read;
        past.clear();
        return now.ports.size();
    }

    private State readSwitch() {
        State s = new State();
        List<String> seen = new ArrayList<>();
        while (more()) {
            String verb = token();
            if (verb.equals("port")) {
                if (s.ports.size() == 6) {
                    throw new Wrong(4, start);
                }
                Port p = new Port();
                p.name = word();
                for (Port other : s.ports) {
                    if (other.name.equals(p.name)) {
                        throw new Wrong(3, start);
                    }
                }
                p.share = number(0, 40);
                p.rate = number(0, 9);
                String next = token();
                if (next.equals("first")) {
                    p.forecast = 16 * number(0, 40);
                    next = token();
                }
                if (!next.equals(";")) {
                    throw new Wrong(1, start);
                }
                s.ports.add(p);
            } else if (verb.equals("term") || verb.equals("keep")) {
                if (seen.contains(verb)) {
                    throw new Wrong(3, start);
                }
                seen.add(verb);
                if (verb.equals("term")) {
                    s.term = number(1, 99);
                } else {
                    s.keep = number(0, 200);
                }
                sign(";");
            } else {
                throw new Wrong(1, start);
            }
        }
        return s;
    }

    /** A command; a repeat has a body. */
    static final class Command {
        String verb;
        int port;
        int other;
        int number;
        List<Command> body = new ArrayList<>();
    }

    private List<Command> readScript(int depth) {
        List<Command> all = new ArrayList<>();
        while (depth > 0 || more()) {
            String verb = token();
            if (depth > 0 && verb.equals(")")) {
                return all;
            }
            if (!verb.matches("arrive|tick|back|extend|term|keep|repeat")) {
                throw new Wrong(1, start);
            }
            if (verb.equals("repeat") && depth == 2) {
                throw new Wrong(3, start);
            }
            if (written == 30) {
                throw new Wrong(4, start);
            }
            written++;
            all.add(readCommand(verb, depth));
            sign(";");
        }
        return all;
    }

    private Command readCommand(String verb, int depth) {
        Command c = new Command();
        c.verb = verb;
        if (verb.equals("repeat")) {
            c.number = number(1, 20);
            sign("(");
            c.body = readScript(depth + 1);
            return c;
        }
        if (verb.equals("arrive") || verb.equals("back")) {
            c.port = named(word());
        }
        if (verb.equals("back")) {
            c.other = named(word());
        }
        c.number = number(0, 9999);
        return c;
    }

    private int named(String name) {
        for (int p = 0; p < now.ports.size(); p++) {
            if (now.ports.get(p).name.equals(name)) {
                return p;
            }
        }
        throw new Wrong(5, start);
    }

    int runScript() {
        begin();
        List<Command> all;
        written = 0;
        try {
            all = readScript(0);
        } catch (Wrong w) {
            throw end(w);
        }
        List<State> kept = new ArrayList<>(past);
        kept.add(now.copy());
        int[] done = {0};
        doAll(all, done);
        past = kept;
        forgetOld();
        return done[0];
    }

    private boolean doAll(List<Command> all, int[] done) {
        for (Command c : all) {
            for (int i = 0; i < c.number && c.verb.equals("repeat"); i++) {
                if (!doAll(c.body, done)) {
                    return false;
                }
            }
            if (!c.verb.equals("repeat")) {
                if (done[0] == 40) {
                    return false;
                }
                try {
                    if (doOne(c) == -1) {
                        return false;
                    }
                } catch (RuntimeException e) {
                    return false;
                }
                done[0]++;
            }
        }
        return true;
    }

    private int doOne(Command c) {
        switch (c.verb) {
            case "arrive": return arrive(c.port, c.number);
            case "tick": return tick(c.number);
            case "back": return giveBack(c.port, c.other, c.number);
            case "extend": return extend(c.number);
            case "term": return setTerm(c.number);
            default: return setKeep(c.number);
        }
    }

    // ---- the buffer

    int feed(int[] words) {
        if (buffer.length() + 20 > 600) {
            throw new IllegalStateException();
        }
        for (int w : words) {
            buffer.append((char) (w >>> 24)).append((char) (w >>> 16 & 255));
            buffer.append((char) (w >>> 8 & 255)).append((char) (w & 255));
        }
        return buffer.length();
    }

    int truncate(int length) {
        argument(length >= 0 && length <= buffer.length());
        buffer.setLength(length);
        return length;
    }

    // ---- the switch

    private static void argument(boolean fine) {
        if (!fine) {
            throw new IllegalArgumentException();
        }
    }

    private static void index(int i, int count) {
        if (i < 0 || i >= count) {
            throw new IndexOutOfBoundsException();
        }
    }

    private void portIndex(int p) {
        index(p, now.ports.size());
    }

    private int sum(int what) {
        int sum = 0;
        for (int p = 0; p < now.ports.size(); p++) {
            sum += port(p, what);
        }
        return sum;
    }

    int setting(int what) {
        switch (what) {
            case 0: return now.ports.size();
            case 1: return now.term;
            case 2: return now.keep;
            case 3: return now.clock;
            case 4: return sum(0);
            case 5: return sum(2);
            case 6: return sum(5);
            case 7: return sum(3);
            case 8: return now.loans.size();
            case 9: return sum(9);
            case 10: return now.drops.size();
            case 11: return now.arrived;
            default: throw new IllegalArgumentException();
        }
    }

    int port(int port, int what) {
        portIndex(port);
        Port p = now.ports.get(port);
        switch (what) {
            case 0: return p.share;
            case 1: return p.rate;
            case 2: return p.cells();
            case 3: return now.free(port);
            case 4: return now.lent(port);
            case 5: return now.borrowed(port);
            case 6: return now.canLend(port);
            case 7: return p.forecast;
            case 8: return now.kept(port);
            case 9: return p.queue.size();
            case 10: return p.dropped;
            case 11: return p.charged;
            case 12: return p.sent;
            default: throw new IllegalArgumentException();
        }
    }

    int packet(int port, int i, int what) {
        portIndex(port);
        index(i, now.ports.get(port).queue.size());
        Packet p = now.ports.get(port).queue.get(i);
        switch (what) {
            case 0: return p.left;
            case 1: return p.had;
            case 2: return p.came;
            default: throw new IllegalArgumentException();
        }
    }

    int promise(int i, int what) {
        index(i, now.loans.size());
        Loan l = now.ordered().get(i);
        switch (what) {
            case 0: return l.lender;
            case 1: return l.borrower;
            case 2: return l.cells;
            case 3: return l.due;
            default: throw new IllegalArgumentException();
        }
    }

    int owed(int port, int other) {
        portIndex(port);
        portIndex(other);
        int sum = 0;
        for (Loan l : now.loans) {
            sum += l.lender == port && l.borrower == other ? l.cells : 0;
        }
        return sum;
    }

    int drop(int i, int what) {
        argument(what >= 0 && what <= 4);
        int size = now.drops.size();
        return i < 0 || i >= 20 || i >= size ? -1 : now.drops.get(size - 1 - i)[what];
    }

    int dropsBy(int reason) {
        argument(reason >= 1 && reason <= 3);
        int sum = 0;
        for (int[] d : now.drops) {
            sum += d[2] == reason ? 1 : 0;
        }
        return sum;
    }

    int mostCharged() {
        for (int p = 0; p < now.ports.size(); p++) {
            boolean most = true;
            for (Port other : now.ports) {
                most &= now.ports.get(p).charged >= other.charged;
            }
            if (most) {
                return p;
            }
        }
        return -1;
    }

    float lossShare() {
        return now.arrived == 0 ? 0.0f : (float) now.drops.size() / (float) now.arrived;
    }

    double meanForecast() {
        return now.ports.isEmpty() ? 0.0 : sum(7) / (16.0 * now.ports.size());
    }

    // ---- what would happen and what will come

    private State tried(int port, int cells) {
        portIndex(port);
        argument(cells >= 1 && cells <= 40);
        State s = now.copy();
        s.arrive(port, cells);
        return s;
    }

    int wouldBorrow(int port, int cells) {
        tried(port, cells);
        int got = now.copy().arrive(port, cells);
        return got == -2 ? -1 : got;
    }

    int wouldCall(int port, int cells) {
        State s = tried(port, cells);
        int less = now.lent(port) - s.lent(port);
        return Math.max(less, 0);
    }

    int wouldDrop(int port, int cells) {
        return tried(port, cells).drops.size() - now.drops.size();
    }

    int greatest(int port) {
        portIndex(port);
        for (int cells = 40; cells > 0; cells--) {
            if (now.copy().arrive(port, cells) != -2) {
                return cells;
            }
        }
        return 0;
    }

    int dropsIn(int ticks) {
        argument(ticks >= 0 && ticks <= 200);
        State s = now.copy();
        for (int t = 0; t < ticks; t++) {
            s.tick();
        }
        return s.drops.size() - now.drops.size();
    }

    private static int waiting(State s) {
        int sum = 0;
        for (Port p : s.ports) {
            sum += p.queue.size();
        }
        return sum;
    }

    int emptyIn() {
        State s = now.copy();
        for (int t = 0; t <= 500; t++) {
            if (waiting(s) == 0) {
                return t;
            }
            s.tick();
        }
        return -1;
    }

    int sentIn(int port, int i) {
        portIndex(port);
        index(i, now.ports.get(port).queue.size());
        State s = now.copy();
        List<Packet> queue = s.ports.get(port).queue;
        Packet it = queue.get(i);
        for (int t = 1; t <= 500; t++) {
            s.tick();
            if (it.left == 0) {
                return t;
            }
            if (!queue.contains(it)) {
                return -1;
            }
        }
        return -1;
    }

    // ---- changes

    private void remember() {
        past.add(now.copy());
        forgetOld();
    }

    private void forgetOld() {
        while (past.size() > 6) {
            past.remove(0);
        }
    }

    int arrive(int port, int cells) {
        portIndex(port);
        argument(cells >= 1 && cells <= 40);
        remember();
        return now.arrive(port, cells);
    }

    int tick(int ticks) {
        argument(ticks >= 1 && ticks <= 99);
        if (now.clock + ticks > 9999) {
            return -1;
        }
        remember();
        for (int t = 0; t < ticks; t++) {
            now.tick();
        }
        return now.clock;
    }

    int giveBack(int port, int other, int cells) {
        portIndex(port);
        portIndex(other);
        argument(cells >= 1 && cells <= 40);
        if (owed(other, port) < cells || now.free(port) < cells) {
            throw new IllegalStateException();
        }
        remember();
        int rest = cells;
        for (Loan l : now.ordered()) {
            if (l.lender == other && l.borrower == port && rest > 0) {
                int part = Math.min(rest, l.cells);
                rest -= part;
                now.lessen(l, part, 0);
            }
        }
        return owed(other, port);
    }

    int extend(int i) {
        index(i, now.loans.size());
        Loan l = now.ordered().get(i);
        if (now.ports.get(l.lender).share - now.lent(l.lender) - now.ports.get(l.lender).cells() < now.kept(l.lender)) {
            throw new IllegalStateException();
        }
        remember();
        l.due += now.term;
        l.made = now.made++;
        return l.due;
    }

    int setTerm(int term) {
        argument(term >= 1 && term <= 99);
        remember();
        int before = now.term;
        now.term = term;
        return before;
    }

    int setKeep(int keep) {
        argument(keep >= 0 && keep <= 200);
        remember();
        int before = now.keep;
        now.keep = keep;
        return before;
    }

    // ---- undo, reports, saving

    int undo() {
        if (past.isEmpty()) {
            return -1;
        }
        now = past.remove(past.size() - 1);
        return past.size();
    }

    int report() {
        StringBuilder r = new StringBuilder();
        for (int p = 0; p < now.ports.size(); p++) {
            r.append(now.ports.get(p).name).append(' ').append(now.ports.get(p).cells());
            r.append('/').append(now.room(p));
            for (Loan l : now.ordered()) {
                if (l.lender == p) {
                    r.append(' ').append(now.ports.get(l.borrower).name).append(':').append(l.cells);
                }
            }
            r.append('\n');
        }
        latestReport = r.toString();
        return r.length();
    }

    int reportByte(int i) {
        index(i, latestReport.length());
        return latestReport.charAt(i);
    }

    int save() {
        saved = now.copy();
        return now.clock;
    }

    int restore() {
        if (saved == null) {
            throw new IllegalStateException();
        }
        now = saved.copy();
        past.clear();
        return now.clock;
    }
}
