import java.util.Random;

/** Runs of random calls from fixed seeds: the class and the model must answer alike. */
public final class ModelTest {
    private static final int RUNS = 6000;
    private static final int CALLS = 512;
    private static final String[] NAMES = {"a", "b", "port", "first", "abcdefgh", "tick", "zz"};

    private final Random random;
    private final CellLoans x = new CellLoans();
    private final Model model = new Model();
    private int calls = 0;
    private int ports = 0;
    private final StringBuilder trace = new StringBuilder();

    private ModelTest(int seed) {
        random = new Random(seed);
    }

    public static void main(String[] args) {
        for (int seed = 1; seed <= RUNS; seed++) {
            String wrong = new ModelTest(seed).run();
            Check.same("run " + seed + " " + wrong, wrong.isEmpty() ? 0 : 1, 0);
        }
        Check.finish();
    }

    /** Answers what was wrong, or nothing. */
    private String run() {
        while (calls < CALLS) {
            String wrong = step();
            if (!wrong.isEmpty()) {
                String t = trace.toString();
                return wrong + " behind " + t.substring(Math.max(0, t.length() - 400));
            }
        }
        return "";
    }

    private int pick(int count) {
        return random.nextInt(count);
    }

    private String step() {
        int kind = pick(100);
        if (calls == 0 || kind < 2) {
            return text(random.nextInt(5) == 0 ? spoiled(switchText()) : switchText(), true);
        }
        if (kind < 7) {
            return text(random.nextInt(4) == 0 ? spoiled(script()) : script(), false);
        }
        return kind < 55 ? change() : question();
    }

    // ---- texts

    private String text(String text, boolean asSwitch) {
        String wrong = "";
        for (int i = 0; i < text.length() && wrong.isEmpty(); i += 20) {
            int[] w = new int[5];
            for (int k = 0; k < 20; k++) {
                w[k / 4] = w[k / 4] << 8 | (i + k < text.length() ? text.charAt(i + k) : 32);
            }
            wrong = both("feed", w);
        }
        if (wrong.isEmpty()) {
            wrong = both("truncate", text.length());
        }
        if (wrong.isEmpty()) {
            trace.append('"').append(text).append('"');
            wrong = both(asSwitch ? "readText" : "runScript");
        }
        if (wrong.isEmpty()) {
            wrong = both("errorCode");
        }
        return wrong.isEmpty() ? both("errorPosition") : wrong;
    }

    private String blank() {
        return pick(4) == 0 ? "\n " : " ";
    }

    private String switchText() {
        StringBuilder t = new StringBuilder();
        int count = pick(20) == 0 ? 7 : pick(7);
        int from = pick(NAMES.length);
        for (int p = 0; p < count; p++) {
            int name = pick(30) == 0 ? pick(NAMES.length) : (from + p) % NAMES.length;
            t.append("port").append(blank()).append(NAMES[name]).append(' ');
            t.append(pick(25) == 0 ? 41 : pick(3) == 0 ? pick(41) : pick(15)).append(blank()).append(pick(5));
            if (pick(3) == 0) {
                t.append(" first ").append(pick(40) == 0 ? 41 : pick(2) == 0 ? pick(41) : pick(6));
            }
            t.append(";").append(pick(2) == 0 ? "" : blank());
        }
        if (pick(2) == 0) {
            t.append("term ").append(pick(30) == 0 ? 0 : 1 + pick(9)).append(';');
        }
        if (pick(2) == 0) {
            t.append("keep").append(pick(30) == 0 ? 201 : 25 * pick(9)).append(';');
        }
        return t.toString();
    }

    private String script() {
        StringBuilder t = new StringBuilder();
        commands(t, 0);
        return t.length() > 600 ? t.substring(0, 600) : t.toString();
    }

    private void commands(StringBuilder t, int depth) {
        int count = pick(15) == 0 ? 31 : pick(6);
        for (int i = 0; i < count; i++) {
            if (depth < (pick(20) == 0 ? 3 : 2) && pick(4) == 0) {
                t.append("repeat ").append(pick(30) == 0 ? 21 : 1 + pick(4)).append("(");
                commands(t, depth + 1);
                t.append(")");
            } else {
                command(t);
            }
            t.append(';').append(pick(3) == 0 ? blank() : "");
        }
    }

    private void command(StringBuilder t) {
        switch (pick(9)) {
            case 0: case 1: case 2: case 3:
                t.append("arrive ").append(name()).append(' ').append(cells());
                break;
            case 4:
                t.append("back ").append(name()).append(' ').append(name()).append(' ').append(1 + pick(3));
                break;
            case 5:
                t.append("extend ").append(pick(4));
                break;
            case 6:
                t.append("term ").append(1 + pick(8));
                break;
            case 7:
                t.append("keep ").append(20 * pick(11));
                break;
            default:
                t.append("tick ").append(pick(20) == 0 ? 99 : 1 + pick(3));
                break;
        }
    }

    private String name() {
        return ports == 0 || pick(40) == 0 ? NAMES[pick(NAMES.length)] : model.now.ports.get(pick(ports)).name;
    }

    private String spoiled(String text) {
        StringBuilder t = new StringBuilder(text);
        String signs = " \n;()09azx_A\u00ff\u0000";
        for (int i = 0; i <= pick(2); i++) {
            int at = pick(t.length() + 1);
            switch (pick(4)) {
                case 0:
                    t.setLength(at);
                    break;
                case 1:
                    t.insert(at, signs.charAt(pick(signs.length())));
                    break;
                case 2:
                    if (at < t.length()) {
                        t.deleteCharAt(at);
                    }
                    break;
                default:
                    t.insert(at, pick(2) == 0 ? " 12345 " : " abcdefghi ");
                    break;
            }
        }
        return t.length() > 600 ? t.substring(0, 600) : t.toString();
    }

    // ---- calls

    private int port() {
        return pick(40) == 0 ? odd() : ports == 0 ? 0 : pick(ports);
    }

    private int cells() {
        return pick(40) == 0 ? 41 * pick(2) : pick(4) == 0 ? 1 + pick(40) : 1 + pick(12);
    }

    private int odd() {
        int[] all = {-1, 6, 7, 40, 41, 100, 201, Integer.MIN_VALUE, Integer.MAX_VALUE, -2, 0, 20};
        return all[pick(all.length)];
    }

    private int small(int count) {
        return pick(40) == 0 ? odd() : pick(count);
    }

    private String change() {
        switch (pick(20)) {
            case 0: case 1: case 2: case 3: case 4: case 5: case 6: case 7:
                return both("arrive", port(), pick(40) == 0 ? odd() : cells());
            case 8: case 9: case 10:
                return both("tick", pick(30) == 0 ? 99 : 1 + small(3));
            case 11: case 12:
                return giveBack();
            case 13: case 14:
                return both("extend", small(Math.max(1, model.now.loans.size())));
            case 15:
                return both("setTerm", 1 + small(9));
            case 16:
                return both("setKeep", pick(20) == 0 ? odd() : pick(2) == 0 ? pick(201) : 20 * pick(11));
            case 17:
                return both("undo");
            case 18:
                return pick(4) == 0 ? both("restore") : both("undo");
            default:
                return pick(3) == 0 ? both("save") : both("report");
        }
    }

    private String giveBack() {
        if (model.now.loans.isEmpty() || pick(10) == 0) {
            return both("giveBack", port(), port(), cells());
        }
        Model.Loan l = model.now.loans.get(pick(model.now.loans.size()));
        return both("giveBack", l.borrower, l.lender, 1 + pick(3));
    }

    private String question() {
        switch (pick(19)) {
            case 0: return both("setting", small(12));
            case 1: case 2: return both("port", port(), small(13));
            case 3: return both("packet", port(), small(4), small(3));
            case 4: return both("promise", small(Math.max(1, model.now.loans.size())), small(4));
            case 5: return both("owed", port(), port());
            case 6: return both("drop", small(22), small(5));
            case 7: return both("dropsBy", 1 + small(3));
            case 8: return both("mostCharged");
            case 9: return both("lossShare");
            case 10: return both("meanForecast");
            case 11: return both("wouldBorrow", port(), pick(40) == 0 ? odd() : cells());
            case 12: return both("wouldCall", port(), pick(40) == 0 ? odd() : cells());
            case 13: return both("wouldDrop", port(), pick(40) == 0 ? odd() : cells());
            case 14: return both("greatest", port());
            case 15: return both("dropsIn", pick(10) == 0 ? odd() : pick(12));
            case 16: return both("emptyIn");
            case 17: return both("sentIn", port(), small(4));
            default: return both("reportByte", small(1 + model.latestReport.length()));
        }
    }

    /** Nothing is promised of an object behind its last call. */
    private String both(String call, int... n) {
        if (calls == CALLS) {
            return "";
        }
        calls++;
        trace.append(' ').append(call);
        for (int v : n) {
            trace.append(',').append(v);
        }
        String got;
        String due;
        try {
            got = "" + ofClass(call, n);
        } catch (RuntimeException e) {
            got = e.getClass().getName();
        }
        try {
            due = "" + ofModel(call, n);
        } catch (RuntimeException e) {
            due = e.getClass().getName();
        }
        ports = model.now.ports.size();
        return got.equals(due) ? "" : call + " answered " + got + ", due is " + due;
    }

    private double ofClass(String call, int[] n) {
        switch (call) {
            case "feed": return x.feed(n[0], n[1], n[2], n[3], n[4]);
            case "truncate": return x.truncate(n[0]);
            case "readText": return x.readText();
            case "runScript": return x.runScript();
            case "errorCode": return x.errorCode();
            case "errorPosition": return x.errorPosition();
            case "setting": return x.setting(n[0]);
            case "port": return x.port(n[0], n[1]);
            case "packet": return x.packet(n[0], n[1], n[2]);
            case "promise": return x.promise(n[0], n[1]);
            case "owed": return x.owed(n[0], n[1]);
            case "drop": return x.drop(n[0], n[1]);
            case "dropsBy": return x.dropsBy(n[0]);
            case "mostCharged": return x.mostCharged();
            case "lossShare": return x.lossShare();
            case "meanForecast": return x.meanForecast();
            case "wouldBorrow": return x.wouldBorrow(n[0], n[1]);
            case "wouldCall": return x.wouldCall(n[0], n[1]);
            case "wouldDrop": return x.wouldDrop(n[0], n[1]);
            case "greatest": return x.greatest(n[0]);
            case "dropsIn": return x.dropsIn(n[0]);
            case "emptyIn": return x.emptyIn();
            case "sentIn": return x.sentIn(n[0], n[1]);
            case "arrive": return x.arrive(n[0], n[1]);
            case "tick": return x.tick(n[0]);
            case "giveBack": return x.giveBack(n[0], n[1], n[2]);
            case "extend": return x.extend(n[0]);
            case "setTerm": return x.setTerm(n[0]);
            case "setKeep": return x.setKeep(n[0]);
            case "undo": return x.undo();
            case "report": return x.report();
            case "reportByte": return x.reportByte(n[0]);
            case "save": return x.save();
            case "restore": return x.restore();
            default: throw new Error(call);
        }
    }

    private double ofModel(String call, int[] n) {
        switch (call) {
            case "feed": return model.feed(n);
            case "truncate": return model.truncate(n[0]);
            case "readText": return model.readText();
            case "runScript": return model.runScript();
            case "errorCode": return model.errorCode;
            case "errorPosition": return model.errorPosition;
            case "setting": return model.setting(n[0]);
            case "port": return model.port(n[0], n[1]);
            case "packet": return model.packet(n[0], n[1], n[2]);
            case "promise": return model.promise(n[0], n[1]);
            case "owed": return model.owed(n[0], n[1]);
            case "drop": return model.drop(n[0], n[1]);
            case "dropsBy": return model.dropsBy(n[0]);
            case "mostCharged": return model.mostCharged();
            case "lossShare": return model.lossShare();
            case "meanForecast": return model.meanForecast();
            case "wouldBorrow": return model.wouldBorrow(n[0], n[1]);
            case "wouldCall": return model.wouldCall(n[0], n[1]);
            case "wouldDrop": return model.wouldDrop(n[0], n[1]);
            case "greatest": return model.greatest(n[0]);
            case "dropsIn": return model.dropsIn(n[0]);
            case "emptyIn": return model.emptyIn();
            case "sentIn": return model.sentIn(n[0], n[1]);
            case "arrive": return model.arrive(n[0], n[1]);
            case "tick": return model.tick(n[0]);
            case "giveBack": return model.giveBack(n[0], n[1], n[2]);
            case "extend": return model.extend(n[0]);
            case "setTerm": return model.setTerm(n[0]);
            case "setKeep": return model.setKeep(n[0]);
            case "undo": return model.undo();
            case "report": return model.report();
            case "reportByte": return model.reportByte(n[0]);
            case "save": return model.save();
            case "restore": return model.restore();
            default: throw new Error(call);
        }
    }
}
