/** The edges of term 1 and of promises 1 to 4, 6 and 7: a new object, the buffer, texts, their errors. */
final class TextEdges extends Edges {
    private static final String SIX =
            "port a 1 1;port b 1 1;port c 1 1;port d 1 1;port e 1 1;port f 1 1;";

    private TextEdges() {
    }

    private static int read(CellLoans x, String text) {
        return Sheet.read(x, text);
    }

    private static void wrong(String text, int code, int position) {
        Sheet.wrongText(new CellLoans(), text, code, position);
    }

    // ---- term 1: tokens

    static void term1TextOf600Bytes() {
        CellLoans x = new CellLoans();
        same("ports of a text whose last byte is byte 599", read(x, repeated(" ", 589) + "port a 1 2;"), 1);
        same("its rate", x.port(0, 1), 2);
        wrong(repeated(" ", 599) + "?", 1, 599);
        wrong(repeated(" ", 590) + "port a 1 2", 1, 600);
    }

    static void term1BlanksAreSpacesAndLineFeeds() {
        CellLoans x = new CellLoans();
        same("blanks before, between and behind tokens",
                read(x, "\n port\n a \n40 \n 9\n\nfirst  5\n;\n term\n7 ; \n"), 1);
        same("share", x.port(0, 0), 40);
        same("forecast", x.port(0, 7), 80);
        same("term", x.setting(1), 7);
    }

    static void term1NoOtherByteIsBlank() {
        int[] others = {0, 8, 9, 11, 13, 31, 33, 127, 128, 138, 160, 255};
        for (int b : others) {
            wrong("port a 1 1;" + (char) b + "term 1;", 1, 11);
            wrong("term" + (char) b + "1;", 1, 4);
        }
    }

    static void term1NoBlanksNeeded() {
        CellLoans x = new CellLoans();
        same("tokens that touch", read(x, "port a1 2first3;port b4 5;term6;keep7;"), 2);
        same("share of a", x.port(0, 0), 1);
        same("forecast of a", x.port(0, 7), 48);
        same("rate of b", x.port(1, 1), 5);
        same("keep", x.setting(2), 7);
    }

    static void term1WordOfEightLetters() {
        CellLoans x = made("port abcdefgh 1 1;");
        Check.text("a name of 8 letters", Sheet.reported(x), "abcdefgh 0/1\n");
        wrong("port abcdefghi 1 1;", 1, 5);
        wrong("port " + repeated("abcdefgh", 2) + " 1 1;", 1, 5);
        wrong("port " + repeated("a", 264) + " 1 1;", 1, 5);
        wrong("portports a 1 1;", 1, 0);
        wrong("port a 1 1 firstfirst 1;", 1, 11);
    }

    static void term1WordOfOneLetter() {
        Check.text("a name of 1 letter", Sheet.reported(made("port q 1 1;")), "q 0/1\n");
    }

    static void term1LettersFromAToZ() {
        Check.text("a name", Sheet.reported(made("port azbymn 1 1;")), "azbymn 0/1\n");
        char[] others = {'`', '{', 'A', 'Z', '@', '[', '_', '-', 225, 250};
        for (char other : others) {
            wrong("port " + other + " 1 1;", 1, 5);
            wrong("port a" + other + " 1 1;", 1, 6);
        }
    }

    static void term1WordIsMaximal() {
        wrong("porta 1 1;", 1, 0);
        wrong("port a 1 1 firsts 1;", 1, 11);
        wrong("por t 1 1;", 1, 0);
        wrong("terms 1;", 1, 0);
        wrong("kee 1;", 1, 0);
    }

    static void term1NameIsAnyWord() {
        CellLoans x = new CellLoans();
        same("ports", read(x, "port port 1 1;port first 2 2 first 3;port term 3 3;port keep 4 4;port repeat 5 5;"), 5);
        same("forecast of first", x.port(1, 7), 48);
        same("term is not set", x.setting(1), 4);
    }

    static void term1NumberOfFourDigits() {
        CellLoans x = made("port a 0040 0009 first 0040;term 0099;keep 0200;");
        same("share", x.port(0, 0), 40);
        same("rate", x.port(0, 1), 9);
        same("forecast", x.port(0, 7), 640);
        same("term", x.setting(1), 99);
        same("keep", x.setting(2), 200);
        wrong("port a 00040 1;", 1, 7);
        wrong("port a 1 00009;", 1, 9);
        wrong("port a 1 1 first 00000;", 1, 17);
        wrong("term 00001;", 1, 5);
        wrong("keep 00000;", 1, 5);
        wrong("term " + repeated("0", 300) + "1;", 1, 5);
        // 2 to the power of 32, and one more: what is left of it in an int must not count
        wrong("term 4294967297;", 1, 5);
        wrong("keep 18446744073709551616;", 1, 5);
    }

    static void term1DigitsFrom0To9() {
        same("share of 10 and 29", made("port a 10 9; port b 29 0;").setting(4), 39);
        same("share of 38 and 7", made("port a 38 4; port b 7 5; term 6;").setting(4), 45);
        wrong("port a 1/ 1;", 1, 8);
        wrong("port a 1: 1;", 1, 8);
        wrong("port a / 1;", 1, 7);
        wrong("port a : 1;", 1, 7);
        wrong("port a +1 1;", 1, 7);
        wrong("port a -1 1;", 1, 7);
    }

    static void term1SignsAreSingle() {
        wrong(";", 1, 0);
        wrong("term 1;;", 1, 7);
        wrong("term 1();", 1, 6);
        wrong("term 1);", 1, 6);
        wrong("term (1);", 1, 5);
        wrong("(term 1;)", 1, 0);
        wrong("port (a) 1 1;", 1, 5);
        wrong("term 1:", 1, 6);
        wrong("term 1,", 1, 6);
    }

    // ---- term 1: statements

    static void term1ShareFrom0To40() {
        same("share 0", made("port a 0 1;").port(0, 0), 0);
        same("share 40", made("port a 40 1;").port(0, 0), 40);
        wrong("port a 41 1;", 2, 7);
        wrong("port a 9999 1;", 2, 7);
    }

    static void term1RateFrom0To9() {
        same("rate 0", made("port a 1 0;").port(0, 1), 0);
        same("rate 9", made("port a 1 9;").port(0, 1), 9);
        wrong("port a 1 10;", 2, 9);
        wrong("port a 1 9999;", 2, 9);
    }

    static void term1FirstFrom0To40() {
        same("first 0", made("port a 1 1 first 0;").port(0, 7), 0);
        same("first 40", made("port a 1 1 first 40;").port(0, 7), 640);
        wrong("port a 1 1 first 41;", 2, 17);
        wrong("port a 1 1 first 9999;", 2, 17);
    }

    static void term1FirstIs0Without() {
        CellLoans x = made("port a 1 1 first 40;");
        read(x, "port a 1 1;");
        same("forecast", x.port(0, 7), 0);
        wrong("port a 1 1 first 1 first 1;", 1, 19);
        wrong("port a 1 first 1 1;", 1, 9);
    }

    static void term1PortsFrom0To5() {
        CellLoans x = new CellLoans();
        same("no port", read(x, "term 1;"), 0);
        same("one port", read(x, "port a 9 1;"), 1);
        same("its number is 0", x.port(0, 0), 9);
        same("six ports", read(x, "port a 10 1;port b 11 1;port c 12 1;port d 13 1;port e 14 1;port f 15 1;"), 6);
        for (int p = 0; p < 6; p++) {
            same("share of port " + p, x.port(p, 0), 10 + p);
        }
        wrong(SIX + "port g 1 1;", 4, 66);
        wrong(SIX + "term 1;port", 4, 73);
        wrong(SIX + "port a 1 1;", 4, 66);
    }

    static void term1NamesAreDifferent() {
        same("names that are nearly the same",
                read(new CellLoans(), "port a 1 1;port aa 1 1;port ab 1 1;port ba 1 1;port abcdefgh 1 1;port abcdefgi 1 1;"),
                6);
        same("first letters alone", read(new CellLoans(), "port abcdefgh 1 1;port bbcdefgh 1 1;port abcdefg 1 1;"), 3);
        wrong("port a 1 1;port a 1 1;", 3, 16);
        wrong("port abcdefgh 1 1;port b 1 1;port abcdefgh 1 1;", 3, 34);
        wrong("port a 1 1;port b 1 1;port c 1 1;port d 1 1;port e 1 1;port e 1 1;", 3, 60);
        CellLoans x = made("port a 1 1;");
        same("a name of the switch before", read(x, "port a 2 2;"), 1);
    }

    static void term1TermFrom1To99() {
        same("term 1", made("term 1;").setting(1), 1);
        same("term 99", made("term 99;").setting(1), 99);
        wrong("term 0;", 2, 5);
        wrong("term 100;", 2, 5);
        wrong("term 9999;", 2, 5);
    }

    static void term1TermIs4Without() {
        CellLoans x = made("term 9;");
        same("term is not told", read(x, "port a 9 0; port b 0 0;"), 2);
        same("term", x.setting(1), 4);
        x.arrive(1, 1);
        same("a promise falls due in four ticks", x.promise(0, 3), 4);
    }

    static void term1KeepFrom0To200() {
        same("keep 0", made("keep 0;").setting(2), 0);
        same("keep 200", made("keep 200;").setting(2), 200);
        wrong("keep 201;", 2, 5);
        wrong("keep 9999;", 2, 5);
    }

    static void term1KeepIs100Without() {
        CellLoans x = made("keep 9;");
        same("keep is not told", read(x, "port a 40 0 first 7;"), 1);
        same("keep", x.setting(2), 100);
        same("the whole forecast is kept back", x.port(0, 8), 7);
    }

    static void term1TermAndKeepStandOnce() {
        CellLoans x = made("keep 3;port a 1 1;term 5;");
        same("term behind keep", x.setting(1), 5);
        same("keep before term", x.setting(2), 3);
        read(x, "term 6;keep 7;");
        same("both again in another text", x.setting(1) * 10 + x.setting(2), 67);
        wrong("term 5;term 5;", 3, 7);
        wrong("term 5;keep 5;port a 1 1;term", 3, 25);
        wrong("keep 5;keep 5;", 3, 7);
        wrong("keep 5;term 5; keep 6;", 3, 15);
        wrong("keep 0;keep 0;", 3, 7);
    }

    // ---- term 1: errors

    static void term1FirstErrorCounts() {
        wrong("port a 41 99;", 2, 7);
        wrong("port a 1 10 first 41;", 2, 9);
        wrong("term 0;prt", 2, 5);
        wrong("term 100?", 2, 5);
        wrong("term 1;term 0;?", 3, 7);
        wrong("prt a 41 1;", 1, 0);
    }

    static void term1PositionIsFirstByte() {
        wrong("   \n abcdefghi", 1, 5);
        wrong("term\n\n  100;", 2, 8);
        wrong("port a 1 1 ; port   a 1 1;", 3, 20);
        wrong("?", 1, 0);
    }

    static void term1EndsTooEarly() {
        String[] tokens = {"port", " a", " 1", " 1", " first", " 1"};
        String[] others = {"term", " 1", "keep", " 1"};
        StringBuilder text = new StringBuilder();
        for (String token : tokens) {
            text.append(token);
            wrong(text.toString(), 1, text.length());
            wrong(text + " \n ", 1, text.length() + 3);
        }
        wrong(others[0], 1, 4);
        wrong(others[0] + others[1], 1, 6);
        wrong(others[2], 1, 4);
        wrong(others[2] + others[3], 1, 6);
        wrong("port b 1 1;" + text, 1, 11 + text.length());
    }

    static void term1EmptyTextHasNoError() {
        CellLoans x = new CellLoans();
        same("an empty text", x.readText(), 0);
        same("its error", x.errorCode(), 0);
        same("blanks alone", read(x, repeated("\n ", 300)), 0);
        same("their error", x.errorCode(), 0);
    }

    static void term1LowestCode() {
        // too long and out of range
        wrong("port a 99999 1;", 1, 7);
        // the 7th statement, but no port
        wrong(SIX + "ports", 1, 66);
        wrong(SIX + "portportp", 1, 66);
        // a name of more than 8 letters whose first 8 another port has
        wrong("port abcdefgh 1 1;port abcdefgha 1 1;", 1, 23);
    }

    // ---- promises

    static void promise1AsIfAnEmptyTextWasRead() {
        CellLoans read = new CellLoans();
        read.readText();
        Twins.alike("the constructor", new CellLoans(), read);
    }

    static void promise1AllIsEmpty() {
        CellLoans x = new CellLoans();
        badArgument("no byte in the buffer", () -> x.truncate(1));
        same("no ports", x.setting(0), 0);
        badIndex("no port 0", () -> x.port(0, 0));
        badIndex("no promise 0", () -> x.promise(0, 0));
        same("nobody was charged", x.mostCharged(), NONE);
        same("nothing waits", x.emptyIn(), 0);
        same("nothing to undo", x.undo(), NONE);
        badState("nothing is saved", () -> x.restore());
        badIndex("no report", () -> x.reportByte(0));
        same("no error", x.errorCode(), 0);
        same("no position", x.errorPosition(), NONE);
    }

    static void promise1ObjectsAreApart() {
        CellLoans x = Twins.rich();
        CellLoans y = new CellLoans();
        same("ports of another object", y.setting(0), 0);
        same("report of another object", y.report(), 0);
        same("error of the first one", x.errorCode(), 2);
    }

    static void promise2FeedTo600() {
        CellLoans x = new CellLoans();
        for (int i = 1; i <= 30; i++) {
            same("feed " + i, x.feed(i, i, i, i, i), 20 * i);
        }
        badState("feed to 620", () -> x.feed(1, 1, 1, 1, 1));
        same("the buffer is full", x.truncate(600), 600);
    }

    static void promise2FeedBehind580() {
        CellLoans x = new CellLoans();
        for (int i = 0; i < 30; i++) {
            x.feed(0, 0, 0, 0, 0);
        }
        x.truncate(581);
        badState("feed to 601", () -> x.feed(1, 1, 1, 1, 1));
        same("still 581", x.truncate(581), 581);
        x.truncate(580);
        same("feed to 600", x.feed(1, 1, 1, 1, 1), 600);
    }

    static void promise2RefusedFeedChangesNothing() {
        CellLoans x = new CellLoans();
        Sheet.feed(x, repeated(" ", 570) + "port abc 1 2;");
        badState("feed to 603", () -> x.feed(0x7a7a7a7a, 0x7a7a7a7a, 0x7a7a7a7a, 0x7a7a7a7a, 0x7a7a7a7a));
        same("the text is as it was", x.readText(), 1);
        same("its rate", x.port(0, 1), 2);
        same("an empty buffer takes 20 again", x.feed(0, 0, 0, 0, 0), 20);
    }

    static void promise2MostSignificantByteFirst() {
        CellLoans x = new CellLoans();
        x.feed(0x706f7274, 0x20616263, 0x20323120, 0x343b2020, 0x0a0a0a0a);
        same("ports", x.readText(), 1);
        Check.text("report", Sheet.reported(x), "abc 0/21\n");
        same("rate", x.port(0, 1), 4);
        // the same bytes, one of each number spoiled
        int[] w = {0x20202020, 0x20202020, 0x20202020, 0x20202020, 0x20202020};
        for (int i = 0; i < 20; i++) {
            int[] v = w.clone();
            v[i / 4] ^= 0x13 << 24 - i % 4 * 8;
            x.feed(v[0], v[1], v[2], v[3], v[4]);
            badArgument("spoiled byte " + i, () -> x.readText());
            same("position of byte " + i, x.errorPosition(), i);
        }
    }

    static void promise2NegativeNumbers() {
        CellLoans x = new CellLoans();
        same("all bytes 255", x.feed(-1, -1, -1, -1, -1), 20);
        badArgument("byte 255", () -> x.readText());
        same("position of byte 255", x.errorPosition(), 0);
        // byte 160 is 32 and the highest bit, byte 187 is ';' and the highest bit
        x.feed(0x20202020, 0xa0202020, 0x20202020, 0x20202020, 0x20202020);
        badArgument("byte 160", () -> x.readText());
        same("position of byte 160", x.errorPosition(), 4);
        x.feed(0x7465726d, 0x2031bb20, 0x20202020, 0x20202020, 0x20202020);
        badArgument("byte 187", () -> x.readText());
        same("position of byte 187", x.errorPosition(), 6);
        same("least int", x.feed(Integer.MIN_VALUE, 0, 0, 0, Integer.MAX_VALUE), 20);
    }

    static void promise3Truncate0To0() {
        CellLoans x = new CellLoans();
        same("0 of 0", x.truncate(0), 0);
        badArgument("1 of 0", () -> x.truncate(1));
    }

    static void promise3TruncateFrom0ToPresent() {
        CellLoans x = new CellLoans();
        x.feed(0, 0, 0, 0, 0);
        badArgument("21 of 20", () -> x.truncate(21));
        same("20 of 20", x.truncate(20), 20);
        badArgument("-1 of 20", () -> x.truncate(-1));
        same("19 of 20", x.truncate(19), 19);
        badArgument("20 of 19", () -> x.truncate(20));
        same("0 of 19", x.truncate(0), 0);
        for (int wild : WILD) {
            badArgument(wild + " of 0", () -> x.truncate(wild));
        }
    }

    static void promise3TruncateOf600() {
        CellLoans x = new CellLoans();
        for (int i = 0; i < 30; i++) {
            x.feed(0, 0, 0, 0, 0);
        }
        badArgument("601 of 600", () -> x.truncate(601));
        same("600 of 600", x.truncate(600), 600);
    }

    static void promise3BytesBehindAreGone() {
        CellLoans x = new CellLoans();
        Sheet.feed(x, "port ab 1 1;term 1;");
        x.truncate(12);
        same("the rest of the text", x.readText(), 1);
        same("term was cut off", x.setting(1), 4);
        Sheet.feed(x, "port ab 1 1;");
        x.truncate(6);
        badArgument("the end was cut off", () -> x.readText());
        same("position", x.errorPosition(), 6);
        // what is fed now stands behind what was left
        x.feed(0x74202020, 0x20202020, 0x20202020, 0x20202020, 0x20202020);
        x.truncate(1);
        x.feed(0x65726d20, 0x373b2020, 0x20202020, 0x20202020, 0x20202020);
        same("a text in two parts", x.readText(), 0);
        same("its term", x.setting(1), 7);
    }

    static void promise3RefusedTruncateChangesNothing() {
        Twins.refused("truncate(-1)", IllegalArgumentException.class, x -> x.truncate(-1));
        Twins.refused("truncate(20)", IllegalArgumentException.class, x -> x.truncate(20));
        Twins.unchanged("truncate(19) of 19", x -> x.truncate(19));
    }

    static void promise4ReplacesNearlyEverything() {
        CellLoans x = Twins.rich();
        x.truncate(0);
        Sheet.feed(x, "port z 3 3 first 1;");
        same("ports", x.readText(), 1);
        CellLoans fresh = made("port z 3 3 first 1;");
        for (int what = 0; what <= 11; what++) {
            same("setting " + what, x.setting(what), fresh.setting(what));
        }
        for (int what = 0; what <= 12; what++) {
            same("port 0, " + what, x.port(0, what), fresh.port(0, what));
        }
        same("no drop", x.drop(0, 0), NONE);
        same("none for reason 1", x.dropsBy(1), 0);
        x.tick(1);
        same("nothing arrived before", x.port(0, 7), 12);
        x.undo();
        same("the calls before are forgotten", x.undo(), NONE);
        same("the clock is 0", x.setting(3), 0);
    }

    /** Some of everything, for texts that come behind it. */
    private static CellLoans busy() {
        CellLoans x = made("port a 9 0 first 9;port b 5 2;port c 0 0;term 9;keep 9;");
        x.tick(3);
        x.arrive(2, 4);
        x.arrive(2, 40);
        x.arrive(0, 5);
        return x;
    }

    /** What a text makes must not tell what was there, or was asked, before. */
    private static void readsAfresh(CellLoans x) {
        same("ports", read(x, "port e 3 1;port f 4 1;port g 5 1;"), 3);
        x.report();
        CellLoans fresh = made("port e 3 1;port f 4 1;port g 5 1;");
        fresh.report();
        Twins.alike("the text", x, fresh);
    }

    static void promise4BehindAQuestionAboutArrivals() {
        CellLoans x = busy();
        same("one packet of c would be dropped", x.wouldDrop(0, 4), 1);
        readsAfresh(x);
    }

    static void promise4BehindAQuestionAboutTicks() {
        CellLoans x = busy();
        same("packets that stay", x.emptyIn(), NONE);
        same("packets that are not sent", x.sentIn(2, 0), NONE);
        same("one packet of c will be dropped", x.dropsIn(200), 1);
        readsAfresh(x);
    }

    static void promise4BehindAQuestionThatLeavesLoans() {
        CellLoans x = made("port a 9 0;port b 5 2;port c 0 1;");
        x.arrive(2, 4);
        x.arrive(1, 3);
        x.tick(1);
        same("none would be dropped", x.wouldDrop(0, 1), 0);
        readsAfresh(x);
    }

    static void promise4BehindATextWithAnError() {
        CellLoans x = busy();
        Sheet.wrongText(x, "port z 7 7 first 7;port y 8 8;term 8;keep 8;?", 1, 44);
        readsAfresh(x);
    }

    static void promise4LeavesSavedAndReport() {
        CellLoans x = Twins.rich();
        x.truncate(0);
        same("an empty text", x.readText(), 0);
        same("the report stays", x.reportByte(0), 'a');
        same("what is saved stays", x.restore(), 1);
        same("with its ports", x.setting(0), 3);
    }

    static void promise4EmptiesTheBuffer() {
        CellLoans x = new CellLoans();
        read(x, "term 1;");
        badArgument("no byte is left", () -> x.truncate(1));
        Sheet.feed(x, "term 0;");
        badArgument("an error", () -> x.readText());
        badArgument("no byte is left behind an error", () -> x.truncate(1));
        same("an empty buffer is no error", x.readText(), 0);
    }

    static void promise4ErrorChangesOnlyBufferAndError() {
        String[] texts = {"port a 1 1;port b 2 2;port b 3 3;", "term 9;keep 9;keep 9;", "port z 1 1;?", "port"};
        for (String text : texts) {
            CellLoans x = Twins.rich();
            x.truncate(0);
            Sheet.feed(x, text);
            badArgument("an error in '" + text + "'", () -> x.readText());
            CellLoans twin = Twins.rich();
            twin.truncate(0);
            Check.text("what is seen", withoutError(Twins.seen(x)), withoutError(Twins.seen(twin)));
            Check.text("what comes", Twins.later(x), Twins.later(twin));
        }
    }

    private static String withoutError(String seen) {
        return seen.replaceAll("error -?[0-9]+ at -?[0-9]+", "error");
    }

    static void promise6CodeIs0WithoutError() {
        CellLoans x = new CellLoans();
        same("nothing was read", x.errorCode(), 0);
        Sheet.wrongText(x, "term 0;", 2, 5);
        x.readText();
        same("a text without an error", x.errorCode(), 0);
        Sheet.wrongScript(x, "?", 1, 0);
        x.runScript();
        same("a script without an error", x.errorCode(), 0);
    }

    static void promise6CodeOfTheLatest() {
        CellLoans x = new CellLoans();
        Sheet.wrongText(x, "?", 1, 0);
        Sheet.wrongText(x, "keep 201;", 2, 5);
        Sheet.wrongText(x, "keep 1;keep 1;", 3, 7);
        Sheet.wrongText(x, SIX + "port", 4, 66);
        Sheet.wrongScript(x, "arrive a 1;", 5, 7);
        Sheet.wrongScript(x, "(", 1, 0);
        x.tick(1);
        x.undo();
        x.save();
        x.restore();
        x.report();
        same("other calls leave it", x.errorCode(), 1);
        same("and its position", x.errorPosition(), 0);
    }

    static void promise7PositionIsNoneWithoutError() {
        CellLoans x = new CellLoans();
        same("nothing was read", x.errorPosition(), NONE);
        Sheet.wrongText(x, "term 0;", 2, 5);
        x.readText();
        same("a text without an error", x.errorPosition(), NONE);
        Sheet.wrongScript(x, "term", 1, 4);
        x.runScript();
        same("a script without an error", x.errorPosition(), NONE);
        Sheet.feed(x, "tick 0;");
        same("a script that ends early", x.runScript(), 0);
        same("has no error", x.errorPosition(), NONE);
    }

    static void promise7PositionFrom0To600() {
        wrong("?" + repeated(" ", 599), 1, 0);
        wrong(repeated("\n", 599) + "?", 1, 599);
        wrong(repeated("\n", 596) + "keep", 1, 600);
    }
}
