/** Promises 1 to 7: a new object, the buffer, texts and scripts. */
public final class TextTest {
    private TextTest() {
    }

    public static void main(String[] args) {
        newObject();
        feed();
        truncate();
        readText();
        textErrors();
        textErrorsByRank();
        failedTextChangesNothing();
        runScript();
        scriptEndsEarly();
        scriptErrors();
        errors();
        Check.finish();
    }

    private static void newObject() {
        CellLoans x = new CellLoans();
        int[] due = {0, 4, 100, 0, 0, 0, 0, 0, 0, 0, 0, 0};
        for (int what = 0; what < due.length; what++) {
            Check.same("1: setting " + what + " of a new object", x.setting(what), due[what]);
        }
        Check.same("1: undo of a new object", x.undo(), CellLoans.NONE);
        Check.same("1: mostCharged of a new object", x.mostCharged(), CellLoans.NONE);
        Check.same("1: buffer of a new object", x.feed(0, 0, 0, 0, 0), 20);
        Check.refused("1: restore of a new object", IllegalStateException.class, () -> x.restore());
        Check.refused("1: port of a new object", IndexOutOfBoundsException.class, () -> x.port(0, 0));
    }

    private static void feed() {
        CellLoans x = new CellLoans();
        Check.same("2: feed", x.feed(0x706f7274, 0x20612031, 0x20323b20, 0x706f7274, 0x20622033), 20);
        Check.same("2: second feed", x.feed(0x20343b20, 0x20202020, 0x20202020, 0x20202020, 0x20202020), 40);
        Check.same("2: ports read", x.readText(), 2);
        Check.same("2: share of port 1", x.port(1, 0), 3);
        Check.same("2: rate of port 1", x.port(1, 1), 4);
        for (int i = 1; i <= 30; i++) {
            Check.same("2: feed " + i, x.feed(-1, -1, -1, -1, -1), 20 * i);
        }
        Check.refused("2: feed over 600", IllegalStateException.class, () -> x.feed(1, 1, 1, 1, 1));
        Check.same("2: buffer stays full", x.truncate(600), 600);
        x.truncate(581);
        Check.refused("2: feed over 600 by one", IllegalStateException.class, () -> x.feed(1, 1, 1, 1, 1));
        x.truncate(580);
        Check.same("2: feed to just 600", x.feed(1, 1, 1, 1, 1), 600);
    }

    private static void truncate() {
        CellLoans x = new CellLoans();
        Check.same("3: truncate to 0", x.truncate(0), 0);
        Check.refused("3: longer than empty", IllegalArgumentException.class, () -> x.truncate(1));
        x.feed(0, 0, 0, 0, 0);
        Check.refused("3: negative", IllegalArgumentException.class, () -> x.truncate(-1));
        Check.refused("3: longer", IllegalArgumentException.class, () -> x.truncate(21));
        Check.refused("3: least int", IllegalArgumentException.class, () -> x.truncate(Integer.MIN_VALUE));
        Check.same("3: as long as it is", x.truncate(20), 20);
        Check.same("3: shorter", x.truncate(7), 7);
        Check.refused("3: as long as it was", IllegalArgumentException.class, () -> x.truncate(8));
        Check.same("3: feed behind it", x.feed(0, 0, 0, 0, 0), 27);
    }

    private static void readText() {
        CellLoans x = new CellLoans();
        Check.same("4: empty text", x.readText(), 0);
        Check.same("4: blanks alone", Sheet.read(x, " \n \n"), 0);
        Check.same("4: ports", Sheet.read(x, "port a 10 3;\nport b 0040 9 first 40 ; term 99;keep 200;"), 2);
        Check.same("4: share", x.port(1, 0), 40);
        Check.same("4: rate", x.port(1, 1), 9);
        Check.same("4: forecast", x.port(1, 7), 640);
        Check.same("4: forecast that is not told", x.port(0, 7), 0);
        Check.same("4: term", x.setting(1), 99);
        Check.same("4: keep", x.setting(2), 200);
        Check.same("4: tokens that touch", Sheet.read(x, "keep0;term1;port a0 0first0;port abcdefgh1 1;"), 2);
        Check.same("4: keep 0", x.setting(2), 0);
        Check.same("4: term 1", x.setting(1), 1);
        Check.same("4: words as names",
                Sheet.read(x, "port port 1 1;port term 1 1;port keep 1 1;port first 1 1 first 2;"), 4);
        Check.same("4: six ports", Sheet.read(x, "port a 1 1;port b 1 1;port c 1 1;port d 1 1;port e 1 1;port f 1 1;"),
                6);
        x.arrive(0, 1);
        x.tick(9);
        x.arrive(0, 40);
        x.save();
        x.report();
        Check.same("4: read again", Sheet.read(x, "port z 5 5;"), 1);
        Check.same("4: the clock is 0", x.setting(3), 0);
        Check.same("4: term is as without it", x.setting(1), 4);
        Check.same("4: no packets arrived", x.setting(11), 0);
        Check.same("4: no packets dropped", x.setting(10), 0);
        Check.same("4: the ledger is empty", x.drop(0, 0), CellLoans.NONE);
        Check.same("4: no drops for reason 1", x.dropsBy(1), 0);
        Check.same("4: no undo", x.undo(), CellLoans.NONE);
        Check.same("4: the report stays", x.reportByte(0), 'a');
        Check.same("4: the buffer is empty", x.feed(0, 0, 0, 0, 0), 20);
        x.truncate(0);
        Check.same("4: what is saved stays", x.restore(), 9);
        Check.same("4: its ports are back", x.setting(0), 6);
    }

    private static void textErrors() {
        CellLoans x = new CellLoans();
        Sheet.wrongText(x, "prt a 1 1;", 1, 0);
        Sheet.wrongText(x, "port", 1, 4);
        Sheet.wrongText(x, "port a 1 1", 1, 10);
        Sheet.wrongText(x, "port a 1 1  ", 1, 12);
        Sheet.wrongText(x, "port a 1 1;;", 1, 11);
        Sheet.wrongText(x, "port 1 1 1;", 1, 5);
        Sheet.wrongText(x, "port a b 1;", 1, 7);
        Sheet.wrongText(x, "port a 1 first 1;", 1, 9);
        Sheet.wrongText(x, "port a 1 1 last 1;", 1, 11);
        Sheet.wrongText(x, "port a 1 1 first;", 1, 16);
        Sheet.wrongText(x, "port a 1 1 first 1 2;", 1, 19);
        Sheet.wrongText(x, "port a 1 1 1;", 1, 11);
        Sheet.wrongText(x, "port a,1 1;", 1, 6);
        Sheet.wrongText(x, "port A 1 1;", 1, 5);
        Sheet.wrongText(x, "port\ta 1 1;", 1, 4);
        Sheet.wrongText(x, "port \u00e9 1 1;", 1, 5);
        Sheet.wrongText(x, "port a -1 1;", 1, 7);
        Sheet.wrongText(x, "term(4);", 1, 4);
        Sheet.wrongText(x, "term 4);", 1, 6);
        Sheet.wrongText(x, "(", 1, 0);
        Sheet.wrongText(x, "9;", 1, 0);
        Sheet.wrongText(x, "port abcdefghi 1 1;", 1, 5);
        Sheet.wrongText(x, "port a 00001 1;", 1, 7);
        Sheet.wrongText(x, "portaport 1 1;", 1, 0);
        Sheet.wrongText(x, "port a 41 1;", 2, 7);
        Sheet.wrongText(x, "port a 9999 1;", 2, 7);
        Sheet.wrongText(x, "port a 40 10;", 2, 10);
        Sheet.wrongText(x, "port a 40 9 first 41;", 2, 18);
        Sheet.wrongText(x, "term 0;", 2, 5);
        Sheet.wrongText(x, "term 100;", 2, 5);
        Sheet.wrongText(x, "keep 201;", 2, 5);
        Sheet.wrongText(x, "port a 1 1;port a 2 2;", 3, 16);
        Sheet.wrongText(x, "term 3; keep 3; term 3;", 3, 16);
        Sheet.wrongText(x, "keep 3;\nkeep 3;", 3, 8);
        String six = "port a 1 1;port b 1 1;port c 1 1;port d 1 1;port e 1 1;port f 1 1;";
        Sheet.wrongText(x, six + " port", 4, 67);
        Sheet.wrongText(x, six + "term 1;port a 1 1;", 4, 73);
    }

    private static void textErrorsByRank() {
        CellLoans x = new CellLoans();
        Sheet.wrongText(x, "port a 12345 1;", 1, 7);
        Sheet.wrongText(x, "port a 41 99; prt", 2, 7);
        Sheet.wrongText(x, "term 1;term 100;", 3, 7);
        Sheet.wrongText(x, Sheet.repeated(" ", 599) + "a", 1, 599);
        Sheet.wrongText(x, Sheet.repeated(" ", 596) + "port", 1, 600);
        Sheet.wrongText(x, Sheet.repeated("9", 600), 1, 0);
        Sheet.wrongText(x, Sheet.repeated("z", 600), 1, 0);
    }

    private static void failedTextChangesNothing() {
        CellLoans x = Sheet.made("port a 9 1; port b 9 2; term 7;");
        x.arrive(0, 3);
        x.tick(2);
        Sheet.wrongText(x, "port c 1 1; port c 1 1;", 3, 17);
        Check.same("4: ports after an error", x.setting(0), 2);
        Check.same("4: clock after an error", x.setting(3), 2);
        Check.same("4: term after an error", x.setting(1), 7);
        Check.same("4: packet after an error", x.packet(0, 0, 0), 1);
        Check.same("4: undo after an error", x.undo(), 1);
    }

    private static void runScript() {
        CellLoans x = Sheet.made("port a 10 2; port b 10 2;");
        Check.same("5: empty script", x.runScript(), 0);
        Check.same("5: it can be undone", x.undo(), 0);
        Check.same("5: arrive and tick", Sheet.run(x, "arrive a 5; tick 1;\narrive b 12;"), 3);
        Check.same("5: packets of a", x.port(0, 2), 3);
        Check.same("5: packets of b", x.port(1, 2), 12);
        Check.same("5: b borrowed", x.owed(0, 1), 2);
        Check.same("5: the buffer is empty", x.truncate(0), 0);
        Check.same("5: extend, term, keep", Sheet.run(x, "keep 0; term 9; extend 0; keep 200;"), 4);
        Check.same("5: it falls due later", x.promise(0, 3), 14);
        Check.same("5: term is set", x.setting(1), 9);
        Check.same("5: keep is set", x.setting(2), 200);
        Check.same("5: ticks and back", Sheet.run(x, "tick 2; back b a 1;"), 2);
        Check.same("5: b owes less", x.owed(0, 1), 1);
        Check.same("5: one undo for a script", x.undo(), 2);
        Check.same("5: all of it is undone", x.setting(3), 1);
        Check.same("5: what b owes is back", x.owed(0, 1), 2);
        Sheet.read(x, "port a 10 2; port back 10 2;");
        Check.same("5: words as names", Sheet.run(x, "arrive back 3; arrive back 3;"), 2);
        Check.same("5: repeats", Sheet.run(x, "repeat 3 ( tick 1; repeat 2 ( arrive a 1; ); ); tick 4;"), 10);
        Check.same("5: ticks of repeats", x.setting(3), 7);
        Check.same("5: an empty repeat", Sheet.run(x, "repeat 20 (repeat 20 (););tick 1;"), 1);
        Check.same("5: a dropped packet ends nothing", Sheet.run(x, "arrive a 40; tick 1;"), 2);
    }

    private static void scriptEndsEarly() {
        CellLoans x = Sheet.made("port a 10 2; port b 10 2;");
        Check.same("5: 40 commands", Sheet.run(x, "repeat 4 (repeat 10 (tick 1;);); arrive a 1;"), 40);
        Check.same("5: none behind them", x.setting(11), 0);
        Check.same("5: 40 commands within a repeat", Sheet.run(x, "repeat 20 (tick 1; arrive a 1; term 5;);"), 40);
        Check.same("5: 14 ticks of them", x.setting(3), 54);
        Check.same("5: 39 and one", Sheet.run(x, "repeat 3 (repeat 13 (tick 1;);); arrive a 1;"), 40);
        Check.same("5: the one was done", x.setting(11), 14);
        x = Sheet.made("port a 10 2; port b 10 2;");
        Check.same("5: arrive of 0 cells ends it", Sheet.run(x, "tick 1; arrive a 0; tick 1;"), 1);
        Check.same("5: arrive of 41 cells ends it", Sheet.run(x, "tick 1; arrive a 41; tick 1;"), 1);
        Check.same("5: tick 0 ends it", Sheet.run(x, "tick 0; tick 1;"), 0);
        Check.same("5: tick 100 ends it", Sheet.run(x, "tick 100; tick 1;"), 0);
        Check.same("5: term 0 ends it", Sheet.run(x, "term 0; tick 1;"), 0);
        Check.same("5: term 100 ends it", Sheet.run(x, "term 100; tick 1;"), 0);
        Check.same("5: keep 201 ends it", Sheet.run(x, "keep 201; tick 1;"), 0);
        Check.same("5: extend of none ends it", Sheet.run(x, "extend 0; tick 1;"), 0);
        Check.same("5: back of what is not owed ends it", Sheet.run(x, "back a b 1; tick 1;"), 0);
        Check.same("5: back of 0 ends it", Sheet.run(x, "back a b 0; tick 1;"), 0);
        Check.same("5: back of 41 ends it", Sheet.run(x, "back a b 41; tick 1;"), 0);
        Check.same("5: back to itself ends it", Sheet.run(x, "back a a 1; tick 1;"), 0);
        Check.same("5: an end within repeats", Sheet.run(x, "repeat 2 (tick 1; repeat 2 (tick 0;);); tick 1;"), 1);
        Check.same("5: two ticks and one were done", x.setting(3), 3);
        Check.same("5: only the clock ends it", Sheet.run(x, "repeat 5 (repeat 20 (tick 99;););"), 40);
        x.undo();
        Check.same("5: undo of it", x.setting(3), 3);
        for (int i = 0; i < 2; i++) {
            Sheet.run(x, "repeat 5 (repeat 20 (tick 99;););");
        }
        Check.same("5: at the end of the clock", Sheet.run(x, "repeat 20 (tick 99;);tick 98;tick 98;"), 20);
        Check.same("5: clock before the end", x.setting(3), 9903);
        Check.same("5: tick that returns NONE", Sheet.run(x, "tick 96; tick 1; arrive a 1;"), 1);
        Check.same("5: the last clock", x.setting(3), 9999);
        Check.same("5: nothing behind it", x.setting(11), 0);
    }

    private static void scriptErrors() {
        CellLoans x = Sheet.made("port a 10 2; port b 10 2;");
        Sheet.wrongScript(x, "arive a 1;", 1, 0);
        Sheet.wrongScript(x, "arrive", 1, 6);
        Sheet.wrongScript(x, "arrive a 1", 1, 10);
        Sheet.wrongScript(x, "arrive 1 a;", 1, 7);
        Sheet.wrongScript(x, "arrive a b;", 1, 9);
        Sheet.wrongScript(x, "back a 1;", 1, 7);
        Sheet.wrongScript(x, "tick a;", 1, 5);
        Sheet.wrongScript(x, "tick 12345;", 1, 5);
        Sheet.wrongScript(x, "arrive abcdefghi 1;", 1, 7);
        Sheet.wrongScript(x, "tick 1; )", 1, 8);
        Sheet.wrongScript(x, "repeat 2 tick 1;", 1, 9);
        Sheet.wrongScript(x, "repeat (tick 1;);", 1, 7);
        Sheet.wrongScript(x, "repeat 2 (tick 1);", 1, 16);
        Sheet.wrongScript(x, "repeat 2 (tick 1;", 1, 17);
        Sheet.wrongScript(x, "repeat 2 (tick 1;)", 1, 18);
        Sheet.wrongScript(x, "repeat 2 (tick 1;) tick 1;", 1, 19);
        Sheet.wrongScript(x, "repeat 2 (;);", 1, 10);
        Sheet.wrongScript(x, "port a 1 1;", 1, 0);
        Sheet.wrongScript(x, "repeat 0 ();", 2, 7);
        Sheet.wrongScript(x, "repeat 21 ();", 2, 7);
        Sheet.wrongScript(x, "repeat 2 (repeat 2 (repeat 2 ();););", 3, 20);
        Sheet.wrongScript(x, "arrive c 1;", 5, 7);
        Sheet.wrongScript(x, "back a bb 1;", 5, 7);
        Sheet.wrongScript(x, "back tick a 1;", 5, 5);
        String thirty = Sheet.repeated("tick 1;", 30);
        Sheet.wrongScript(x, thirty + "tick 1;", 4, 210);
        Sheet.wrongScript(x, thirty + "repeat 99 (", 4, 210);
        Sheet.wrongScript(x, thirty + "tik 1;", 1, 210);
        Sheet.wrongScript(x, "repeat 2 (" + Sheet.repeated("tick 1;", 29) + "tick 1;);", 4, 213);
        Sheet.wrongScript(x, Sheet.repeated("tick 1;", 28) + "repeat 2 (repeat 2 (repeat", 3, 216);
        Sheet.wrongScript(x, Sheet.repeated("repeat 20 (tick 1;);", 15) + "arrive c 1;", 4, 300);
        Sheet.wrongScript(x, Sheet.repeated("repeat 20 (tick 1;);", 14) + "arrive c 1;", 5, 287);
        Check.same("5: no script with an error did anything", x.setting(3), 0);
        Check.same("5: none of them can be undone", x.undo(), CellLoans.NONE);
        Check.same("5: thirty commands", Sheet.run(x, thirty), 30);
        Check.same("5: two repeats twice", Sheet.run(x, "repeat 2 (repeat 2 (tick 1;);repeat 1 (tick 1;););"), 6);
    }

    private static void errors() {
        CellLoans x = new CellLoans();
        Check.same("6: no error yet", x.errorCode(), 0);
        Check.same("7: no position yet", x.errorPosition(), CellLoans.NONE);
        Sheet.wrongText(x, "port a 77 1;", 2, 7);
        x.tick(1);
        Check.same("6: the error stays", x.errorCode(), 2);
        Check.same("7: its position stays", x.errorPosition(), 7);
        x.undo();
        Check.same("6: undo leaves the error", x.errorCode(), 2);
        x.runScript();
        Check.same("6: a script without an error", x.errorCode(), 0);
        Check.same("7: a script without an error", x.errorPosition(), CellLoans.NONE);
        Sheet.wrongScript(x, "tick", 1, 4);
        x.readText();
        Check.same("6: a text without an error", x.errorCode(), 0);
        Check.same("7: a text without an error", x.errorPosition(), CellLoans.NONE);
    }
}
