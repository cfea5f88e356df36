import java.util.function.Supplier;

/** Texts and reports as strings, and what tests often do with them. */
final class Sheet {
    private Sheet() {
    }

    /** Puts a text into the buffer, which must be empty. */
    static void feed(CellLoans x, String text) {
        int[] words = new int[(text.length() + 19) / 20 * 5];
        for (int i = 0; i < words.length * 4; i++) {
            int b = i < text.length() ? text.charAt(i) : ' ';
            words[i / 4] = words[i / 4] << 8 | b;
        }
        for (int w = 0; w < words.length; w += 5) {
            x.feed(words[w], words[w + 1], words[w + 2], words[w + 3], words[w + 4]);
        }
        x.truncate(text.length());
    }

    static CellLoans made(String text) {
        CellLoans x = new CellLoans();
        read(x, text);
        return x;
    }

    static int read(CellLoans x, String text) {
        feed(x, text);
        return x.readText();
    }

    static int run(CellLoans x, String script) {
        feed(x, script);
        return x.runScript();
    }

    /** Reads a text that has an error. */
    static void wrongText(CellLoans x, String text, int code, int position) {
        feed(x, text);
        Check.refused("readText of '" + text + "'", IllegalArgumentException.class, () -> x.readText());
        error(x, text, code, position);
    }

    /** Reads a script that has an error. */
    static void wrongScript(CellLoans x, String script, int code, int position) {
        feed(x, script);
        Check.refused("runScript of '" + script + "'", IllegalArgumentException.class, () -> x.runScript());
        error(x, script, code, position);
    }

    private static void error(CellLoans x, String text, int code, int position) {
        Check.same("errorCode of '" + text + "'", x.errorCode(), code);
        Check.same("errorPosition of '" + text + "'", x.errorPosition(), position);
        Check.same("bytes behind '" + text + "'", x.feed(0, 0, 0, 0, 0), 20);
        x.truncate(0);
    }

    static String reported(CellLoans x) {
        int length = x.report();
        StringBuilder bytes = new StringBuilder();
        for (int i = 0; i < length; i++) {
            bytes.append((char) x.reportByte(i));
        }
        return bytes.toString();
    }

    static void report(String what, CellLoans x, String due) {
        Check.text(what + ": report", reported(x), due);
    }

    /** A long report, read from several objects that are made alike: none of them gets more than 512 calls. */
    static String longReport(Supplier<CellLoans> maker) {
        StringBuilder bytes = new StringBuilder();
        int length = maker.get().report();
        while (bytes.length() < length) {
            CellLoans x = maker.get();
            x.report();
            for (int i = 0; i < 300 && bytes.length() < length; i++) {
                bytes.append((char) x.reportByte(bytes.length()));
            }
        }
        return bytes.toString();
    }

    static String repeated(String part, int times) {
        StringBuilder all = new StringBuilder();
        for (int i = 0; i < times; i++) {
            all.append(part);
        }
        return all.toString();
    }
}
