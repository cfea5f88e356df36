/** The edges of term 6 and promises 31 to 35: undo, reports, saving, and what holds for every call. */
final class KeepEdges extends Edges {
    private KeepEdges() {
    }

    // ---- term 6

    static void term6EachChangeCanBeUndone() {
        CellLoans x = made("port a 9 0;port b 0 9;");
        x.arrive(1, 5);
        x.tick(1);
        same("two so far", x.undo(), 1);
        x.tick(1);
        x.giveBack(1, 0, 1);
        x.extend(0);
        x.setTerm(5);
        x.setKeep(6);
        for (int left = 5; left >= 0; left--) {
            same("undo", x.undo(), left);
        }
        same("none more", x.undo(), NONE);
        same("as at first", x.port(0, 3), 9);
    }

    static void term6ChangeToTheSameCanBeUndone() {
        CellLoans x = made("port a 0 0;");
        x.setTerm(4);
        x.setKeep(100);
        same("a dropped packet is a change, too", x.arrive(0, 1), DROPPED);
        same("setKeep is left", x.undo(), 2);
        same("setTerm is left", x.undo(), 1);
        same("nothing is left", x.undo(), 0);
    }

    static void term6ScriptIsOneCall() {
        CellLoans x = made("port a 9 0;");
        Sheet.run(x, "tick 1;tick 1;arrive a 3;");
        same("one call", x.undo(), 0);
        same("all of it", x.setting(3) + x.setting(11), 0);
    }

    static void term6ScriptWithoutCommandsCanBeUndone() {
        CellLoans x = made("port a 9 0;");
        x.runScript();
        same("an empty one", x.undo(), 0);
        Sheet.run(x, "tick 0;");
        same("one that ended at once", x.undo(), 0);
        Sheet.run(x, "repeat 5();");
        same("one with empty brackets", x.undo(), 0);
    }

    static void term6RefusedCallsCanNotBeUndone() {
        CellLoans x = made("port a 9 1;");
        clock(x, 9990);
        x.setTerm(1);
        badArgument("arrive", () -> x.arrive(0, 0));
        badArgument("tick", () -> x.tick(0));
        badArgument("giveBack", () -> x.giveBack(0, 0, 0));
        badIndex("extend", () -> x.extend(0));
        badArgument("setTerm", () -> x.setTerm(0));
        badArgument("setKeep", () -> x.setKeep(-1));
        same("tick that returns NONE", x.tick(99), NONE);
        Sheet.feed(x, "tick");
        badArgument("script", () -> x.runScript());
        x.setTerm(2);
        x.undo();
        same("before the last call that was not refused", x.setting(1), 1);
        x.undo();
        same("before the one before it", x.setting(1), 4);
        same("the clock stays", x.setting(3), 9990);
    }

    static void term6Latest6() {
        int[] counts = {5, 6, 7, 11, 12, 13};
        for (int count : counts) {
            CellLoans x = new CellLoans();
            for (int i = 1; i <= count; i++) {
                x.setTerm(10 + i);
            }
            int kept = Math.min(6, count);
            for (int i = 1; i <= kept; i++) {
                same("behind " + count + ": left", x.undo(), kept - i);
                same("behind " + count + ": term", x.setting(1), i == count ? 4 : 10 + count - i);
            }
            same("behind " + count + ": none left", x.undo(), NONE);
        }
    }

    static void term6LatestOf512Calls() {
        CellLoans x = new CellLoans();
        for (int i = 1; i <= 504; i++) {
            x.setTerm(1 + i % 99);
        }
        for (int left = 5; left >= 0; left--) {
            same("left", x.undo(), left);
        }
        same("the 511th call", x.undo(), NONE);
        same("the last call that is promised", x.setting(1), 1 + 498 % 99);
    }

    static void term6UndoThenChange() {
        CellLoans x = new CellLoans();
        for (int i = 1; i <= 6; i++) {
            x.setTerm(10 + i);
        }
        same("two undone", x.undo() + x.undo(), 9);
        x.setTerm(50);
        x.setTerm(51);
        x.setTerm(52);
        same("six again", x.undo(), 5);
        int[] due = {50, 14, 13, 12, 11};
        for (int i = 0; i < due.length; i++) {
            same("left", x.undo(), 4 - i);
            same("term", x.setting(1), due[i]);
        }
        same("the first one was forgotten", x.undo(), NONE);
    }

    static void term6UndoLeavesReportBufferErrorAndSaved() {
        CellLoans x = made("port a 9 0;");
        x.arrive(0, 2);
        x.setTerm(9);
        x.save();
        x.report();
        Sheet.wrongText(x, "term 0;", 2, 5);
        Sheet.feed(x, "tick 3;");
        x.undo();
        x.undo();
        same("the error stays", x.errorCode(), 2);
        same("its position stays", x.errorPosition(), 5);
        same("the report stays", x.reportByte(2), '2');
        same("the buffer stays", x.runScript(), 1);
        same("its tick is done", x.setting(3), 3);
        same("what is saved stays", x.restore(), 0);
        same("with the packet", x.port(0, 2), 2);
        same("and the term", x.setting(1), 9);
    }

    static void term6UndoOfAScriptLeavesItsBufferEmpty() {
        CellLoans x = made("port a 9 0;");
        Sheet.run(x, "tick 3;");
        x.undo();
        badArgument("the buffer is not filled again", () -> x.truncate(1));
        same("no error", x.errorCode(), 0);
    }

    static void term6UndoBringsBackAllElse() {
        CellLoans x = Twins.rich();
        String before = Twins.seen(x);
        x.arrive(0, 9);
        x.undo();
        Check.text("behind arrive", Twins.seen(x), before);
        x.tick(7);
        x.undo();
        Check.text("behind tick", Twins.seen(x), before);
    }

    static void term6UndoBringsBackWhatArrivedSinceTheTick() {
        CellLoans x = made("port a 40 0;");
        x.arrive(0, 1);
        x.arrive(0, 8);
        x.undo();
        x.tick(1);
        same("one cell: 16 by 4", x.port(0, 7), 4);
        x.undo();
        x.tick(1);
        same("the same once more", x.port(0, 7), 4);
    }

    static void term6UndoBringsBackPacketsThatWereSent() {
        CellLoans x = made("port a 40 2;");
        x.arrive(0, 3);
        x.tick(1);
        x.arrive(0, 7);
        x.arrive(0, 9);
        x.tick(1);
        same("the second one is first", x.packet(0, 0, 1), 7);
        x.undo();
        int[][] due = {{1, 3, 0}, {7, 7, 1}, {9, 9, 1}};
        for (int i = 0; i < 3; i++) {
            for (int what = 0; what < 3; what++) {
                same("packet " + i + ", " + what, x.packet(0, i, what), due[i][what]);
            }
        }
    }

    /** Has dropped 20 packets of 1 to 20 cells, for reason 1, one each tick; then one for reason 2 at another port. */
    private static CellLoans fullLedger() {
        CellLoans x = made("port a 3 0;port b 0 0;port c 0 0;keep 0;");
        x.arrive(1, 3);
        for (int cells = 1; cells <= 20; cells++) {
            x.setTerm(99);
            x.extend(0);
            x.tick(1);
            x.arrive(2, cells);
        }
        return x;
    }

    static void term6UndoBringsBackAsManyPromisesAsCells() {
        CellLoans x = allLent();
        x.save();
        x.tick(7);
        same("promises that are left", x.setting(8), 45);
        x.undo();
        same("promises", x.setting(8), 240);
        promise(x, 0, 1, 0, 1, 99);
        promise(x, 239, 1, 0, 1, 191);
        x.tick(99);
        same("no promise", x.setting(8), 0);
        x.restore();
        same("promises that were saved", x.setting(8), 240);
        promise(x, 239, 1, 0, 1, 191);
    }

    static void term6UndoBringsBackTheOldestDrop() {
        CellLoans x = fullLedger();
        drop(x, 19, 2, 1, 1, 2, 1);
        x.arrive(0, 1);
        drop(x, 0, 1, 3, 2, 1, 20);
        drop(x, 19, 2, 2, 1, 2, 2);
        x.undo();
        drop(x, 0, 2, 20, 1, 2, 20);
        drop(x, 19, 2, 1, 1, 2, 1);
        same("none behind it", x.drop(20, 0), NONE);
        same("none was called in", x.dropsBy(2), 0);
    }

    static void promise35BringsBackTheOldestDrop() {
        CellLoans x = fullLedger();
        x.save();
        x.arrive(0, 1);
        x.restore();
        drop(x, 0, 2, 20, 1, 2, 20);
        drop(x, 19, 2, 1, 1, 2, 1);
        same("dropped", x.setting(10), 20);
    }

    static void term6ReadTextAndRestoreForget() {
        CellLoans x = made("port a 9 0;");
        x.setTerm(5);
        Sheet.wrongText(x, "?", 1, 0);
        same("a text with an error forgets nothing", x.undo(), 0);
        x.setTerm(5);
        badState("nothing is saved", () -> x.restore());
        same("a refused restore forgets nothing", x.undo(), 0);
        x.setTerm(5);
        x.save();
        same("save forgets nothing", x.undo(), 0);
        x.setTerm(5);
        x.restore();
        same("restore", x.undo(), NONE);
        x.setTerm(5);
        x.readText();
        same("readText", x.undo(), NONE);
    }

    static void term6OtherCallsCanNotBeUndone() {
        CellLoans x = Twins.rich();
        int left = 6;
        x.truncate(3);
        x.truncate(0);
        x.feed(0, 0, 0, 0, 0);
        x.report();
        x.save();
        x.wouldDrop(0, 9);
        x.wouldBorrow(0, 9);
        x.wouldCall(0, 9);
        x.greatest(0);
        x.dropsIn(9);
        x.emptyIn();
        x.sentIn(0, 0);
        same("the arrival at c is undone", x.undo(), left - 1);
        same("it had one cell", x.port(2, 2), 4);
    }

    static void term6ListedFirstIsThrownFirst() {
        CellLoans x = Twins.rich();
        badIndex("port", () -> x.port(3, 13));
        badIndex("packet: port", () -> x.packet(3, 9, 9));
        badIndex("packet: place", () -> x.packet(0, 9, 9));
        badIndex("promise", () -> x.promise(9, 9));
        badIndex("wouldBorrow", () -> x.wouldBorrow(3, 41));
        badIndex("wouldCall", () -> x.wouldCall(3, 41));
        badIndex("wouldDrop", () -> x.wouldDrop(3, 41));
        badIndex("arrive", () -> x.arrive(3, 41));
        badIndex("giveBack: port", () -> x.giveBack(3, 0, 41));
        badIndex("giveBack: other", () -> x.giveBack(0, 3, 41));
        badArgument("giveBack: cells", () -> x.giveBack(0, 1, 41));
        badIndex("extend", () -> x.extend(1));
    }

    static void term6SixPortsAndNoMore() {
        CellLoans x = made("port a 1 0;port b 1 0;port c 1 0;port d 1 0;port e 1 0;port f 1 0;");
        same("port 5", x.arrive(5, 1), 0);
        badIndex("port 6", () -> x.arrive(6, 1));
        badIndex("other 6", () -> x.owed(0, 6));
        badIndex("greatest of 6", () -> x.greatest(6));
    }

    // ---- promise 31

    static void promise31NoneToUndo() {
        CellLoans x = new CellLoans();
        same("a new object", x.undo(), NONE);
        x.tick(3);
        same("one call", x.undo(), 0);
        same("none more", x.undo(), NONE);
        same("the clock", x.setting(3), 0);
    }

    static void promise31NoneChangesNothing() {
        Twins.unchanged("undo that returns NONE", KeepEdges::restored, x -> same("nothing to undo", x.undo(), NONE));
    }

    private static CellLoans restored() {
        CellLoans x = Twins.rich();
        x.restore();
        return x;
    }

    static void promise31ReturnsWhatIsLeftFrom0To5() {
        CellLoans x = new CellLoans();
        for (int i = 0; i < 7; i++) {
            x.tick(1);
        }
        for (int left = 5; left >= 0; left--) {
            same("left", x.undo(), left);
        }
        same("the first of seven is done", x.setting(3), 1);
    }

    // ---- promises 32 and 33

    static void promise32WithoutPorts() {
        CellLoans x = new CellLoans();
        same("no bytes", x.report(), 0);
        badIndex("no byte", () -> x.reportByte(0));
    }

    static void promise32PortsWithoutPromises() {
        CellLoans x = made("port a 0 0;port abcdefgh 40 0;");
        x.arrive(1, 40);
        same("bytes", x.report(), 21);
        Check.text("report", Sheet.reported(x), "a 0/0\nabcdefgh 40/40\n");
    }

    static void promise32NumbersOfOneToThreeDigits() {
        CellLoans x = made("port a 40 0;port b 40 0;port c 30 0;term 50;");
        x.arrive(0, 9);
        Check.text("9", Sheet.reported(x), "a 9/40\nb 0/40\nc 0/30\n");
        x.arrive(0, 1);
        Check.text("10", Sheet.reported(x), "a 10/40\nb 0/40\nc 0/30\n");
        x.arrive(0, 30);
        x.arrive(0, 40);
        x.arrive(0, 19);
        Check.text("99", Sheet.reported(x), "a 99/99\nb 0/0 a:40\nc 0/11 a:19\n");
        x.arrive(0, 1);
        Check.text("100", Sheet.reported(x), "a 100/100\nb 0/0 a:40\nc 0/10 a:19 a:1\n");
        x.arrive(0, 9);
        Check.text("109", Sheet.reported(x), "a 109/109\nb 0/0 a:40\nc 0/1 a:19 a:1 a:9\n");
        x.arrive(0, 1);
        Check.text("110", Sheet.reported(x), "a 110/110\nb 0/0 a:40\nc 0/0 a:19 a:1 a:9 a:1\n");
    }

    static void promise32NumbersFrom199To240() {
        CellLoans x = made("port a 40 0;port b 40 0;port c 40 0;port d 40 0;port e 40 0;port f 40 0;");
        for (int i = 0; i < 4; i++) {
            x.arrive(0, 40);
        }
        x.arrive(0, 39);
        String lent = "b 0/0 a:40\nc 0/0 a:40\nd 0/0 a:40\n";
        Check.text("199", Sheet.reported(x), "a 199/199\n" + lent + "e 0/1 a:39\nf 0/40\n");
        x.arrive(0, 1);
        Check.text("200", Sheet.reported(x), "a 200/200\n" + lent + "e 0/1 a:39\nf 0/39 a:1\n");
        x.arrive(0, 40);
        Check.text("240", Sheet.reported(x), "a 240/240\n" + lent + "e 0/0 a:39 a:1\nf 0/0 a:1 a:39\n");
    }

    static void promise32PromisesInTheirOrder() {
        CellLoans x = made("port a 9 0;port b 0 0;port cc 0 0;term 3;");
        x.arrive(1, 1);
        x.arrive(2, 2);
        x.arrive(1, 3);
        Check.text("report", Sheet.reported(x), "a 0/3 b:1 cc:2 b:3\nb 4/4\ncc 2/2\n");
        x.extend(0);
        Check.text("extended", Sheet.reported(x), "a 0/3 cc:2 b:3 b:1\nb 4/4\ncc 2/2\n");
        x.arrive(0, 5);
        Check.text("called in", Sheet.reported(x), "a 5/5 b:3 b:1\nb 4/4\ncc 0/0\n");
    }

    static void promise32InPlaceOfTheOneBefore() {
        CellLoans x = made("port abcdefgh 40 0;port b 40 0;");
        same("a long one", x.report(), 21);
        Sheet.read(x, "port a 1 0;");
        same("a short one", x.report(), 6);
        same("its last byte", x.reportByte(5), 10);
        badIndex("no byte of the one before", () -> x.reportByte(6));
    }

    /** Port f borrowed all cells of the others one by one, and sent its packets. */
    private static CellLoans manyLoans() {
        CellLoans x = made("port aaaaaaaa 40 9;port bbbbbbbb 40 9;port cccccccc 40 9;port dddddddd 40 9;"
                + "port eeeeeeee 40 9;port ffffffff 39 9;term 99;keep 0;");
        Sheet.run(x, "arrive ffffffff 39;");
        for (int i = 0; i < 5; i++) {
            Sheet.run(x, "repeat 2(repeat 20(arrive ffffffff 1;););");
        }
        x.tick(27);
        return x;
    }

    static void promise32LongReport() {
        CellLoans x = manyLoans();
        same("200 promises", x.setting(8), 200);
        same("f is empty", x.port(5, 2), 0);
        same("and has 239 free cells", x.port(5, 3), 239);
        same("bytes", x.report(), 5 * (8 + 5 + 40 * 11) + 8 + 7);
        Check.text("report", Sheet.longReport(KeepEdges::manyLoans), lines() + "ffffffff 0/239\n");
    }

    static void promise32ReportOfAsManyPromisesAsCells() {
        same("bytes", allLent().report(), reportOfAllLent().length());
        Check.text("report", Sheet.longReport(Edges::allLent), reportOfAllLent());
    }

    private static String lines() {
        String loans = repeated(" ffffffff:1", 40) + "\n";
        return "aaaaaaaa 0/0" + loans + "bbbbbbbb 0/0" + loans + "cccccccc 0/0" + loans + "dddddddd 0/0" + loans
                + "eeeeeeee 0/0" + loans;
    }

    static void promise33BytesThatThereAre() {
        CellLoans x = made("port a 9 0;");
        badIndex("there was no report", () -> x.reportByte(0));
        same("bytes", x.report(), 6);
        same("the first", x.reportByte(0), 'a');
        same("a space", x.reportByte(1), 32);
        same("a digit", x.reportByte(2), 48);
        same("a slash", x.reportByte(3), 47);
        same("the last", x.reportByte(5), 10);
        badIndex("behind the last", () -> x.reportByte(6));
        for (int wild : WILD) {
            badIndex("byte " + wild, () -> x.reportByte(wild));
        }
    }

    static void promise33OfTheLatestReport() {
        CellLoans x = made("port a 9 0;");
        x.report();
        x.arrive(0, 5);
        same("as it was", x.reportByte(2), '0');
        x.undo();
        x.readText();
        same("also behind a text", x.reportByte(2), '0');
        x.report();
        badIndex("an empty report", () -> x.reportByte(0));
    }

    static void promise33RefusedChangesNothing() {
        Twins.refused("reportByte(-1)", IndexOutOfBoundsException.class, x -> x.reportByte(-1));
        Twins.refused("reportByte(60)", IndexOutOfBoundsException.class, x -> x.reportByte(60));
    }

    // ---- promises 34 and 35

    static void promise34ReturnsTheClock() {
        CellLoans x = new CellLoans();
        same("at first", x.save(), 0);
        clock(x, 9999);
        same("at last", x.save(), 9999);
        x.readText();
        same("restored", x.restore(), 9999);
    }

    static void promise34InPlaceOfWhatWasSavedBefore() {
        CellLoans x = made("port a 9 0;");
        x.arrive(0, 1);
        x.save();
        x.arrive(0, 2);
        x.save();
        x.arrive(0, 3);
        x.restore();
        queue(x, 0, 1, 2);
        x.readText();
        x.save();
        x.restore();
        same("no ports were saved last", x.setting(0), 0);
    }

    static void promise34LeavesEverything() {
        CellLoans x = Twins.rich();
        String before = Twins.seen(x);
        x.save();
        Check.text("what is seen", Twins.seen(x), before);
        same("what can be undone", x.undo(), 5);
        same("the buffer", x.truncate(19), 19);
    }

    static void promise34SavesNoBufferErrorUndoOrReport() {
        CellLoans x = Twins.rich();
        x.save();
        x.truncate(0);
        x.setKeep(0);
        x.readText();
        x.report();
        x.restore();
        badArgument("the buffer stays empty", () -> x.truncate(1));
        same("the error stays away", x.errorCode(), 0);
        badIndex("the report stays empty", () -> x.reportByte(0));
        same("no call comes back", x.undo(), NONE);
    }

    static void promise35NothingSaved() {
        CellLoans x = made("port a 9 0;");
        badState("nothing was saved", () -> x.restore());
        x.readText();
        badState("nor behind another text", () -> x.restore());
        same("as it was", x.tick(1), 1);
    }

    static void promise35RefusedChangesNothing() {
        Twins.refused("restore()", IllegalStateException.class, KeepEdges::unsaved, x -> x.restore());
    }

    private static CellLoans unsaved() {
        CellLoans x = made("port a 9 1;port b 0 1;");
        x.arrive(1, 3);
        x.tick(1);
        x.arrive(0, 2);
        x.report();
        Sheet.feed(x, "tick 2;");
        return x;
    }

    static void promise35BringsBackEverythingSaved() {
        CellLoans x = Twins.rich();
        x.save();
        x.report();
        String before = Twins.seen(x);
        x.truncate(0);
        Sheet.feed(x, "port zz 3 1;term 77;keep 0;");
        x.readText();
        x.arrive(0, 40);
        x.tick(9);
        same("the clock then", x.restore(), 1);
        String error = "error -?[0-9]+ at -?[0-9]+";
        Check.text("what is seen", Twins.seen(x).replaceAll(error, ""), before.replaceAll(error, ""));
        same("a script finds the names", Sheet.run(x, "arrive c 1;"), 1);
        x.undo();
        x.tick(1);
        // 44 cells arrived at a: 704 - 24 = 680, a quarter is 170
        same("what arrived since the tick", x.port(0, 7), 194);
    }

    static void promise35WhatWasSavedStays() {
        CellLoans x = made("port a 9 1;");
        x.arrive(0, 5);
        x.save();
        for (int i = 0; i < 3; i++) {
            x.tick(2);
            x.arrive(0, 1);
            same("the clock", x.restore(), 0);
            queue(x, 0, 5);
            same("nothing to undo", x.undo(), NONE);
        }
    }

    static void promise35LeavesBufferErrorAndReport() {
        CellLoans x = Twins.rich();
        x.restore();
        same("the buffer", x.truncate(19), 19);
        same("the error", x.errorCode(), 2);
        same("its position", x.errorPosition(), 7);
        same("the report", x.reportByte(0), 'a');
        same("the script in the buffer", x.runScript(), 2);
    }
}
