/** The edges of term 5 and promise 5: scripts, where they end, their errors. */
final class ScriptEdges extends Edges {
    private ScriptEdges() {
    }

    private static CellLoans two() {
        return made("port a 10 2; port b 10 2;");
    }

    private static int run(CellLoans x, String script) {
        return Sheet.run(x, script);
    }

    private static void wrong(String script, int code, int position) {
        Sheet.wrongScript(two(), script, code, position);
    }

    /** The command must end a script, uncounted, with nothing behind it done, and be no error of the text. */
    private static void ends(CellLoans x, String command) {
        int clock = x.setting(3);
        int term = x.setting(1);
        same("commands before " + command, run(x, "keep 7;" + command + "term 77;"), 1);
        same("code of " + command, x.errorCode(), 0);
        same("term behind " + command, x.setting(1), term);
        same("clock behind " + command, x.setting(3), clock);
        same("within brackets: commands before " + command,
                run(x, "keep 7;repeat 3(repeat 2(" + command + "term 77;);term 78;);term 79;"), 1);
        same("within brackets: term behind " + command, x.setting(1), term);
    }

    private static void goesOn(CellLoans x, String command) {
        same("commands with " + command, run(x, "keep 8;" + command + "keep 9;"), 3);
        same("keep behind " + command, x.setting(2), 9);
    }

    // ---- term 5: the methods of the commands

    static void term5ArriveFrom1To40() {
        ends(two(), "arrive a 0;");
        goesOn(two(), "arrive a 1;");
        goesOn(two(), "arrive b 40;");
        ends(two(), "arrive b 41;");
        ends(two(), "arrive a 9999;");
    }

    static void term5DroppedPacketEndsNothing() {
        CellLoans x = two();
        goesOn(x, "arrive a 21;");
        same("it was dropped", x.dropsBy(1), 1);
    }

    static void term5TickFrom1To99() {
        ends(two(), "tick 0;");
        goesOn(two(), "tick 1;");
        goesOn(two(), "tick 99;");
        ends(two(), "tick 100;");
        ends(two(), "tick 9999;");
    }

    static void term5TickTo9999() {
        CellLoans x = two();
        clock(x, 9900);
        goesOn(x, "tick 99;");
        ends(x, "tick 1;");
        x = two();
        clock(x, 9901);
        ends(x, "tick 99;");
        goesOn(x, "tick 98;");
        same("the clock", x.setting(3), 9999);
    }

    /** Port b owes 40 cells to a, and has all of them free. */
    private static CellLoans owing() {
        CellLoans x = made("port a 40 0; port b 0 9; port c 0 9; term 99;");
        x.arrive(1, 40);
        x.tick(5);
        return x;
    }

    static void term5BackFrom1To40() {
        ends(owing(), "back b a 0;");
        goesOn(owing(), "back b a 1;");
        goesOn(owing(), "back b a 40;");
        ends(owing(), "back b a 41;");
    }

    static void term5BackOfWhatIsOwed() {
        CellLoans x = owing();
        x.giveBack(1, 0, 30);
        ends(x, "back b a 11;");
        ends(x, "back a b 1;");
        ends(x, "back b b 1;");
        ends(x, "back b c 1;");
        goesOn(x, "back b a 10;");
        same("nothing is owed", x.owed(0, 1), 0);
        ends(x, "back b a 1;");
    }

    static void term5BackOfWhatIsFree() {
        CellLoans x = owing();
        x.arrive(1, 30);
        ends(x, "back b a 11;");
        goesOn(x, "back b a 10;");
        ends(x, "back b a 1;");
    }

    static void term5ExtendPlaces() {
        CellLoans x = owing();
        x.setTerm(3);
        ends(x, "extend 1;");
        ends(x, "extend 9999;");
        goesOn(x, "extend 0;");
        same("it falls due later", x.promise(0, 3), 102);
        x.giveBack(1, 0, 40);
        ends(x, "extend 0;");
    }

    static void term5ExtendOfALenderThatKeepsBack() {
        CellLoans x = made("port a 9 0 first 4; port b 0 0;");
        x.arrive(1, 3);
        x.arrive(0, 3);
        same("what it keeps back", x.port(0, 8), 4);
        same("what is left", x.port(0, 0) - x.port(0, 4) - x.port(0, 2), 3);
        x.setKeep(76);
        same("commands done", run(x, "extend 0;tick 1;"), 0);
        same("with less to keep back", run(x, "keep 75;extend 0;"), 2);
    }

    static void term5TermFrom1To99() {
        ends(two(), "term 0;");
        same("term 1", run(two(), "term 1;"), 1);
        same("term 99", run(two(), "term 99;"), 1);
        ends(two(), "term 100;");
        ends(two(), "term 9999;");
    }

    static void term5KeepFrom0To200() {
        goesOn(two(), "keep 0;");
        goesOn(two(), "keep 200;");
        ends(two(), "keep 201;");
        ends(two(), "keep 9999;");
    }

    static void term5CommandsAreAsTheMethods() {
        String script = "arrive b 13;tick 2;arrive a 4;extend 0;back b a 1;term 9;keep 20;arrive b 11;arrive a 9;";
        CellLoans x = made("port a 10 2 first 1;port b 10 2;");
        same("commands", run(x, script), 9);
        CellLoans y = made("port a 10 2 first 1;port b 10 2;");
        y.arrive(1, 13);
        y.tick(2);
        y.arrive(0, 4);
        y.extend(0);
        y.giveBack(1, 0, 1);
        y.setTerm(9);
        y.setKeep(20);
        y.arrive(1, 11);
        y.arrive(0, 9);
        Check.text("what is seen", Twins.seen(x), Twins.seen(y));
    }

    // ---- term 5: how much is done

    static void term5FortyCommands() {
        CellLoans x = two();
        same("39", run(x, "repeat 3(repeat 13(tick 1;););"), 39);
        same("39 ticks", x.setting(3), 39);
        same("40", run(x, "repeat 2(repeat 20(tick 1;););"), 40);
        same("40 ticks more", x.setting(3), 79);
        same("41", run(x, "repeat 2(repeat 20(tick 1;););term 9;"), 40);
        same("the 41st is not done", x.setting(1), 4);
        same("39 and two", run(x, "repeat 3(repeat 13(tick 1;););term 8;term 9;"), 40);
        same("the 40th is done, the 41st is not", x.setting(1), 8);
    }

    static void term5FortyInTheMiddleOfARepeat() {
        CellLoans x = two();
        same("3 commands 20 times", run(x, "repeat 20(tick 1;term 9;term 8;);keep 0;"), 40);
        same("the 40th is a tick", x.setting(3), 14);
        same("behind it nothing", x.setting(1), 8);
        same("nor behind the brackets", x.setting(2), 100);
        same("8000 commands", run(x, "repeat 20(repeat 20(tick 1;arrive a 1;););"), 40);
        same("20 of them are ticks", x.setting(3), 34);
        same("and 20 arrivals", x.setting(11), 20);
    }

    static void term5RepeatIsNotCounted() {
        CellLoans x = two();
        same("40 commands in 20 repeats", run(x, repeated("repeat 2(tick 2;);", 15)), 30);
        same("29 repeats and nothing in them", run(x, repeated("repeat 20();", 29) + "tick 1;"), 1);
        same("40 in 10 rounds of brackets", run(x, "repeat 10(repeat 2(tick 1;);repeat 2(tick 1;););"), 40);
    }

    static void term5RefusedCommandBehindFortyIsNoMatter() {
        CellLoans x = two();
        same("a tick that would be refused", run(x, "repeat 2(repeat 20(tick 1;););tick 0;"), 40);
        same("code", x.errorCode(), 0);
    }

    static void term5RepeatFrom1To20() {
        CellLoans x = two();
        same("once", run(x, "repeat 1(tick 1;);"), 1);
        same("20 times", run(x, "repeat 20(tick 1;);"), 20);
        same("20 times 1 and 1 times 20", run(x, "repeat 20(repeat 1(tick 1;););repeat 1(repeat 20(tick 1;););"), 40);
        wrong("repeat 0(tick 1;);", 2, 7);
        wrong("repeat 21(tick 1;);", 2, 7);
        wrong("repeat 9999(", 2, 7);
        wrong("tick 1;repeat 2(repeat 0(tick 1;););", 2, 23);
    }

    static void term5OnlyRepeatHasARange() {
        String[] commands = {"arrive a 9999;", "tick 9999;", "back a b 9999;", "extend 9999;", "term 9999;", "keep 9999;",
            "arrive a 0;", "tick 0;", "back a b 0;", "extend 0;", "term 0;"};
        for (String command : commands) {
            CellLoans x = two();
            same("commands of " + command, run(x, command), 0);
            same("code of " + command, x.errorCode(), 0);
        }
    }

    static void term5TwoRepeatsWithinOneAnother() {
        CellLoans x = two();
        same("two", run(x, "repeat 2(repeat 3(tick 1;););"), 6);
        same("two again behind those", run(x, "repeat 2(repeat 2(tick 1;);tick 1;repeat 3(tick 1;););repeat 1(repeat 1(););"),
                12);
        wrong("repeat 2(repeat 2(repeat 2(tick 1;);););", 3, 18);
        wrong("repeat 2(repeat 2(tick 1;repeat 99", 3, 25);
        wrong("repeat 2(repeat 2();repeat 2(repeat", 3, 29);
        wrong("repeat 2(repeat 2();repeat 2();repeat 2(tick 1; repeat", 3, 48);
    }

    static void term5ThirtyCommandsOfTheText() {
        CellLoans x = two();
        String thirty = repeated("tick 1;", 30);
        same("30", run(x, thirty), 30);
        wrong(thirty + "tick 1;", 4, 210);
        wrong(thirty + " repeat 0", 4, 211);
        wrong(thirty + thirty, 4, 210);
        same("30 with 15 repeats", run(x, repeated("repeat 1(tick 1;);", 15)), 15);
        wrong(repeated("repeat 1(tick 1;);", 15) + "term 1;", 4, 270);
        same("30 in brackets", run(x, "repeat 1(repeat 1(" + repeated("tick 1;", 28) + "););"), 28);
        wrong("repeat 1(repeat 1(" + repeated("tick 1;", 28) + "tick 1;););", 4, 214);
        same("a repeat in brackets is the 30th", run(x, "repeat 2(" + repeated("tick 1;", 28) + "repeat 2(););"), 40);
        wrong("repeat 2(" + repeated("tick 1;", 29) + "repeat 2(););", 4, 212);
        String[] commands = {"arrive", "tick", "back", "extend", "term", "keep", "repeat"};
        for (String command : commands) {
            wrong(thirty + command, 4, 210);
        }
    }

    static void term5ThirtyAreCountedAnew() {
        CellLoans x = two();
        String thirty = repeated("tick 1;", 30);
        same("30", run(x, thirty), 30);
        same("30 again", run(x, thirty), 30);
        Sheet.wrongScript(x, thirty + "tick", 4, 210);
        same("30 behind an error", run(x, thirty), 30);
        Sheet.wrongScript(x, "repeat 2(repeat 2(", 1, 18);
        same("brackets are forgotten, too", run(x, "repeat 2(repeat 2(tick 1;););"), 4);
    }

    static void term5NameThatNoPortHas() {
        CellLoans x = made("port abcdefgh 9 1;port b 9 1;");
        same("names that ports have", run(x, "arrive abcdefgh 9;arrive b 9;"), 2);
        Sheet.wrongScript(x, "arrive a 1;", 5, 7);
        Sheet.wrongScript(x, "arrive abcdefg 1;", 5, 7);
        Sheet.wrongScript(x, "arrive abcdefgi 1;", 5, 7);
        Sheet.wrongScript(x, "arrive bcdefgh 1;", 5, 7);
        Sheet.wrongScript(x, "arrive bb 1;", 5, 7);
        Sheet.wrongScript(x, "back c b 1;", 5, 5);
        Sheet.wrongScript(x, "back b c 1;", 5, 7);
        Sheet.wrongScript(x, "arrive tick 1;", 5, 7);
        Sheet.read(x, "port c 1 1;");
        Sheet.wrongScript(x, "arrive b 1;", 5, 7);
        same("the port that there is now", run(x, "arrive c 1;"), 1);
        Sheet.wrongScript(new CellLoans(), "arrive a 1;", 5, 7);
    }

    static void term5NameIsAnyWord() {
        CellLoans x = made("port arrive 9 0;port back 0 9;port repeat 5 0;port tick 5 0;");
        same("commands", run(x, "arrive arrive 2;arrive back 3;tick 1;back back arrive 3;arrive repeat 1;arrive tick 1;"), 6);
        same("packets", x.setting(9), 3);
        same("loans", x.setting(8), 0);
    }

    static void term5TokensAreThoseOfATextBlanks() {
        CellLoans x = two();
        same("blanks", run(x, "\n repeat\n 2 \n( arrive\na  1\n; tick\n1 ;\n)\n;\n"), 4);
        same("none needed", run(x, "repeat2(arrive a1;tick2;);keep3;"), 5);
        int[] others = {0, 9, 13, 31, 33, 160, 255};
        for (int b : others) {
            wrong("tick" + (char) b + "1;", 1, 4);
            wrong("tick 1;" + (char) b, 1, 7);
        }
    }

    static void term5TokensAreThoseOfATextLengths() {
        CellLoans x = made("port abcdefgh 9 0;");
        same("8 letters, 4 digits", run(x, "arrive abcdefgh 0009;tick 0001;repeat 0002();"), 2);
        wrong("arrive abcdefghi 1;", 1, 7);
        wrong("arrivearr a 1;", 1, 0);
        wrong("arrive a 00009;", 1, 9);
        wrong("tick 00001;", 1, 5);
        wrong("repeat 00002();", 1, 7);
        wrong("repeat 4294967298();", 1, 7);
    }

    static void term5LowestCode() {
        String thirty = repeated("tick 1;", 30);
        // the third repeat within others is the 31st command, too
        wrong("repeat 1(repeat 1(" + repeated("tick 1;", 28) + "repeat", 3, 214);
        // no command at all
        wrong(thirty + "ticks", 1, 210);
        wrong(thirty + "repeatrepeat", 1, 210);
        // too long, and no port has it; too long, and out of range
        wrong("arrive abcdefghi 1;", 1, 7);
        wrong("repeat 00021(", 1, 7);
        wrong("repeat 10000(", 1, 7);
    }

    static void term5TokensThatTheGrammarDoesNotAllow() {
        wrong("port a 1 1;", 1, 0);
        wrong(";", 1, 0);
        wrong(")", 1, 0);
        wrong("9;", 1, 0);
        wrong("tick 1;;", 1, 7);
        wrong("tick 1)", 1, 6);
        wrong("tick a;", 1, 5);
        wrong("arrive 1 a;", 1, 7);
        wrong("arrive a b;", 1, 9);
        wrong("arrive a 1 1;", 1, 11);
        wrong("back a 1;", 1, 7);
        wrong("back 1 a 1;", 1, 5);
        wrong("back a b c;", 1, 9);
        wrong("repeat(tick 1;);", 1, 6);
        wrong("repeat 2 tick 1;", 1, 9);
        wrong("repeat 2)", 1, 8);
        wrong("repeat 2;", 1, 8);
        wrong("repeat 2((tick 1;));", 1, 9);
        wrong("repeat 2(;);", 1, 9);
        wrong("repeat 2(tick 1);", 1, 15);
        wrong("repeat 2(tick 1;)tick 1;", 1, 17);
        wrong("repeat 2(tick 1;));", 1, 17);
        wrong("repeat 2(tick 1;););", 1, 18);
    }

    static void term5EndsTooEarly() {
        String[] scripts = {"arrive| a| 1|", "tick| 1|", "back| a| b| 1|", "extend| 0|", "term| 1|", "keep| 1|",
            "repeat| 2|(|tick| 1|;|)|"};
        for (String script : scripts) {
            for (int at = script.indexOf('|'); at >= 0; at = script.indexOf('|', at + 1)) {
                String part = script.substring(0, at).replace("|", "");
                wrong(part, 1, part.length());
                wrong(part + "\n ", 1, part.length() + 2);
            }
        }
        wrong("repeat 2(repeat 2();", 1, 20);
    }

    static void term5EmptyScripts() {
        CellLoans x = two();
        same("an empty script", x.runScript(), 0);
        same("blanks", run(x, "\n \n"), 0);
        same("empty brackets", run(x, "repeat 20();"), 0);
        same("empty brackets in brackets", run(x, "repeat 20(repeat 20(););tick 1;repeat 1();"), 1);
    }

    static void term5ScriptOf600Bytes() {
        CellLoans x = two();
        same("blanks and a command", run(x, repeated(" ", 593) + "tick 9;"), 1);
        same("its tick", x.setting(3), 9);
        wrong(repeated(" ", 594) + "tick 9", 1, 600);
        // 30 commands with 20 bytes each
        same("a full text", run(x, repeated("arrive      a  0001;", 30)), 30);
    }

    // ---- promise 5

    static void promise5ReturnsCommandsFrom0To40() {
        CellLoans x = two();
        same("0", x.runScript(), 0);
        same("1", run(x, "tick 1;"), 1);
        same("40", run(x, "repeat 4(repeat 10(tick 1;););"), 40);
    }

    static void promise5EmptiesTheBuffer() {
        CellLoans x = two();
        run(x, "tick 1;");
        badArgument("no byte is left", () -> x.truncate(1));
        Sheet.feed(x, "tick 1;?");
        badArgument("an error", () -> x.runScript());
        badArgument("no byte is left behind an error", () -> x.truncate(1));
        run(x, "tick 0;");
        badArgument("no byte is left behind an early end", () -> x.truncate(1));
    }

    static void promise5ErrorChangesOnlyBufferAndError() {
        String[] scripts = {"tick 1;tick 1;?", "arrive a 3;arrive z 3;", "repeat 2(tick 1;);repeat 0();", "keep"};
        for (String script : scripts) {
            CellLoans x = Twins.rich();
            x.truncate(0);
            Sheet.feed(x, script);
            badArgument("an error in '" + script + "'", () -> x.runScript());
            CellLoans twin = Twins.rich();
            twin.truncate(0);
            String error = "error -?[0-9]+ at -?[0-9]+";
            Check.text("what is seen", Twins.seen(x).replaceAll(error, ""), Twins.seen(twin).replaceAll(error, ""));
            Check.text("what comes", Twins.later(x), Twins.later(twin));
        }
    }
}
