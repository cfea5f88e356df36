/** The edges of terms 2 to 4 and promises 25 to 30: cells, arrivals, ticks, loans. */
final class CellEdges extends Edges {
    private CellEdges() {
    }

    // ---- term 2

    static void term2QueueInOrderOfArrival() {
        CellLoans x = made("port a 40 0;");
        x.arrive(0, 3);
        x.arrive(0, 1);
        x.tick(1);
        x.arrive(0, 2);
        queue(x, 0, 3, 1, 2);
    }

    static void term2PacketOf1To40Cells() {
        CellLoans x = made("port a 40 0;port b 40 0;");
        same("40 cells", x.arrive(0, 40), 0);
        same("in use", x.port(0, 2), 40);
        same("none free", x.port(0, 3), 0);
        same("1 cell", x.arrive(1, 1), 0);
        same("39 free", x.port(1, 3), 39);
        same("all cells of packets", x.setting(5), 41);
    }

    static void term2QueueOf240Packets() {
        CellLoans x = longQueue();
        same("packets", x.port(0, 9), 240);
        same("cells", x.port(0, 2), 240);
        same("the last one", x.packet(0, 239, 0), 1);
        badIndex("none behind it", () -> x.packet(0, 240, 0));
        same("no room for another", x.arrive(0, 1), DROPPED);
        same("no cell is free", x.setting(7), 0);
        same("promises", x.setting(8), 200);
        same("the last promise", x.promise(199, 2), 1);
        badIndex("none behind it", () -> x.promise(200, 2));
        x.tick(5);
        same("nine sent each tick", x.port(0, 9), 195);
    }

    /** All cells of six ports in the queue of port 0, a packet each. */
    private static CellLoans longQueue() {
        CellLoans x = made("port a 40 9;port b 40 0;port c 40 0;port d 40 0;port e 40 0;port f 40 0;term 99;keep 0;");
        for (int i = 0; i < 6; i++) {
            Sheet.run(x, "repeat 2(repeat 20(arrive a 1;););");
        }
        return x;
    }

    static void term2AsManyPromisesAsCells() {
        CellLoans x = allLent();
        same("promises", x.setting(8), 240);
        same("cells lent", x.setting(6), 240);
        promise(x, 0, 1, 0, 1, 99);
        promise(x, 239, 1, 0, 1, 191);
        badIndex("none behind it", () -> x.promise(240, 0));
        same("none has a cell to lend", x.wouldBorrow(0, 1), NONE);
        same("the first one falls due as the last one then", x.extend(0), 198);
        promise(x, 239, 1, 0, 1, 198);
        promise(x, 0, 2, 0, 1, 99);
        same("before 194 of them fall due", x.dropsIn(6), 0);
        same("room for two cells is left then", x.dropsIn(7), 5);
        x.tick(7);
        same("46 promises are left", x.setting(8), 46);
        same("five packets are dropped", x.port(0, 10), 5);
    }

    static void term2RoomIsShareLessLentPlusBorrowed() {
        CellLoans x = made("port a 9 0;port b 4 0;port c 0 0;");
        x.arrive(2, 7);
        x.arrive(1, 6);
        same("free cells of a", x.port(0, 3), 0);
        same("a lent", x.port(0, 4), 9);
        same("room of b is in use", x.port(1, 2), 6);
        same("free cells of b", x.port(1, 3), 0);
        Check.text("rooms", Sheet.reported(x), "a 0/0 c:7 b:2\nb 6/6\nc 7/7\n");
    }

    static void term2KeptBackIsRoundedUp() {
        CellLoans x = made("port a 40 0 first 1;keep 0;");
        int[] keeps = {0, 1, 99, 100, 101, 199, 200};
        int[] due = {0, 1, 1, 1, 2, 2, 2};
        for (int i = 0; i < keeps.length; i++) {
            x.setKeep(keeps[i]);
            same("16 sixteenths by " + keeps[i], x.port(0, 8), due[i]);
        }
        x.tick(1);
        x.setKeep(133);
        same("12 sixteenths by 133: 1596 of 1600", x.port(0, 8), 1);
        x.setKeep(134);
        same("12 sixteenths by 134: 1608 of 1600", x.port(0, 8), 2);
        x.tick(1);
        x.setKeep(177);
        same("9 sixteenths by 177: 1593 of 1600", x.port(0, 8), 1);
        x.setKeep(178);
        same("9 sixteenths by 178: 1602 of 1600", x.port(0, 8), 2);
    }

    static void term2KeptBackOfOnePartMore() {
        CellLoans x = made("port a 40 0 first 1;");
        x.arrive(0, 8);
        x.tick(2);
        same("16 and 28, less 11", x.port(0, 7), 33);
        x.setKeep(97);
        same("33 sixteenths by 97: 3201, one more than 2 * 1600", x.port(0, 8), 3);
        x.setKeep(96);
        same("33 sixteenths by 96: 3168", x.port(0, 8), 2);
    }

    static void term2NothingKeptBackOfNoForecast() {
        CellLoans x = made("port a 40 0;keep 200;");
        same("kept back", x.port(0, 8), 0);
        same("can lend", x.port(0, 6), 40);
    }

    static void term2KeptBackOfTheLargestForecast() {
        CellLoans x = made("port a 0 0;keep 200;");
        for (int i = 0; i < 120; i++) {
            Sheet.run(x, "repeat 2(repeat 20(arrive a 40;););");
        }
        x.tick(1);
        same("arrived", x.setting(11), 4800);
        same("charged for more than 16 bits hold", x.port(0, 11), 192000);
        same("forecast", x.port(0, 7), 768000);
        same("kept back", x.port(0, 8), 96000);
        same("can lend", x.port(0, 6), 0);
        same("dropped", x.dropsBy(1), 4800);
    }

    static void term2CanLendAtLeast0() {
        CellLoans x = made("port a 5 0 first 5;port b 5 0 first 6;port c 5 0 first 4;port d 0 0;");
        same("just nothing", x.port(0, 6), 0);
        same("not less than 0", x.port(1, 6), 0);
        same("one cell", x.port(2, 6), 1);
        same("b takes nothing from what c can lend", x.greatest(3), 1);
        same("one is borrowed", x.arrive(3, 1), 1);
        promise(x, 0, 2, 3, 1, 4);
    }

    static void term2CanLendWithoutCellsLentAndInUse() {
        CellLoans x = made("port a 9 0 first 2;port b 0 0;");
        x.arrive(0, 3);
        same("9 - 3 - 2", x.port(0, 6), 4);
        same("all of it is borrowed", x.arrive(1, 4), 4);
        same("nothing more", x.port(0, 6), 0);
        same("what is kept back is free", x.port(0, 3), 2);
        same("but not for b", x.arrive(1, 1), DROPPED);
    }

    static void term2BorrowedCellsAreNotLentOn() {
        CellLoans x = made("port a 9 0;port b 0 9;port c 0 0;");
        x.arrive(1, 9);
        x.tick(1);
        same("b has free cells", x.port(1, 3), 9);
        same("but can lend none", x.port(1, 6), 0);
        same("c gets none", x.greatest(2), 0);
        same("c loses its packet", x.arrive(2, 1), DROPPED);
        CellLoans y = made("port a 2 9;port b 9 0;port c 0 0;keep 0;");
        y.arrive(0, 5);
        y.tick(1);
        same("a has five free cells", y.port(0, 3), 5);
        same("but can lend two", y.port(0, 6), 2);
    }

    static void term2PromisesByTimeThenByAge() {
        CellLoans x = made("port a 9 0;port b 0 0;term 3;");
        x.arrive(1, 1);
        x.setTerm(2);
        x.arrive(1, 2);
        x.arrive(1, 3);
        x.setTerm(1);
        x.tick(1);
        x.arrive(1, 1);
        same("promises", x.setting(8), 4);
        promise(x, 0, 0, 1, 2, 2);
        promise(x, 1, 0, 1, 3, 2);
        promise(x, 2, 0, 1, 1, 2);
        promise(x, 3, 0, 1, 1, 3);
    }

    // ---- term 3

    static void term3TakesAsManyAsAreFree() {
        CellLoans x = made("port a 5 0;port b 5 0;");
        same("all free cells", x.arrive(0, 5), 0);
        same("no promise", x.setting(8), 0);
        x.undo();
        same("one more", x.arrive(0, 6), 1);
        same("a promise", x.setting(8), 1);
    }

    static void term3FreeCellsBeforeCalls() {
        CellLoans x = made("port a 9 0;port b 0 0;");
        x.arrive(1, 4);
        same("five are free", x.arrive(0, 5), 0);
        same("nothing was called in", x.owed(0, 1), 4);
        x.undo();
        same("six are not", x.arrive(0, 6), 0);
        same("one was called in", x.owed(0, 1), 3);
    }

    static void term3CallsUpToItsShare() {
        CellLoans x = made("port a 9 0;port b 0 0;port c 20 0;");
        x.arrive(2, 18);
        x.arrive(1, 4);
        x.arrive(0, 2);
        same("promises: a lent all four", x.owed(0, 1), 4);
        same("2 + 7 are its share: called in", x.arrive(0, 7), 0);
        same("a has lent nothing", x.port(0, 4), 0);
        same("b lost its packet", x.dropsBy(2), 1);
        x.undo();
        same("2 + 8 are more: borrowed, but c can lend 2 only", x.arrive(0, 8), DROPPED);
        same("nothing was called in", x.port(0, 4), 4);
    }

    static void term3BorrowsAboveItsShare() {
        CellLoans x = made("port a 9 0;port b 0 0;port c 5 0;");
        x.arrive(1, 4);
        x.arrive(0, 5);
        same("5 + 4 are its share: called in", x.wouldCall(0, 4), 4);
        same("and not borrowed", x.wouldBorrow(0, 4), 0);
        same("5 + 5 are more: borrowed", x.arrive(0, 5), 5);
        same("of c", x.owed(2, 0), 5);
        same("and not called in", x.owed(0, 1), 4);
    }

    static void term3CallsTheFirstPromiseFirst() {
        CellLoans x = threeLoans();
        same("one cell is called in", x.arrive(0, 1), 0);
        same("the first promise has one cell less", x.promise(0, 2), 1);
        same("promises", x.setting(8), 3);
        x.undo();
        same("two cells", x.arrive(0, 2), 0);
        same("the first promise is gone", x.setting(8), 2);
        promise(x, 0, 0, 2, 3, 4);
        x.undo();
        same("three cells", x.arrive(0, 3), 0);
        same("the first is gone", x.setting(8), 2);
        promise(x, 0, 0, 2, 2, 4);
        promise(x, 1, 0, 1, 4, 4);
        x.undo();
        same("nine cells", x.arrive(0, 9), 0);
        same("all are gone", x.setting(8), 0);
    }

    /** Port a lent 2 cells to b, 3 to c, 4 to b, and has none left. */
    private static CellLoans threeLoans() {
        CellLoans x = made("port a 9 0;port b 0 0;port c 0 0;");
        x.arrive(1, 2);
        x.arrive(2, 3);
        x.arrive(1, 4);
        same("all is lent", x.port(0, 3), 0);
        return x;
    }

    static void term3CallsOnlyPromisesThatItGave() {
        CellLoans x = made("port a 4 0;port b 6 0;port c 0 0;term 2;");
        x.arrive(2, 5);
        x.setTerm(3);
        x.arrive(2, 4);
        promise(x, 0, 1, 2, 5, 2);
        promise(x, 1, 0, 2, 4, 3);
        same("a calls in", x.arrive(0, 2), 0);
        same("not from the promise of b", x.owed(1, 2), 5);
        same("from its own", x.owed(0, 2), 2);
    }

    static void term3BorrowsIfAllOthersCanLendAsMuch() {
        CellLoans x = made("port a 1 0;port b 3 0;port c 4 0;port d 5 0 first 2;");
        same("1 free, 3 + 4 + 3 to lend", x.arrive(0, 11), 10);
        same("nothing is left", x.port(1, 6) + x.port(2, 6) + x.port(3, 6), 0);
        x.undo();
        same("one more", x.arrive(0, 12), DROPPED);
        drop(x, 0, 0, 12, 1, 0, 0);
        same("no promise was made", x.setting(8), 0);
        same("nothing is lent", x.setting(6), 0);
        same("its own can not be lent to itself", made("port a 3 0;").arrive(0, 4), DROPPED);
    }

    static void term3BorrowsFromTheOneThatCanLendMost() {
        CellLoans x = made("port a 0 0;port b 3 0;port c 5 0;port d 5 0;port e 4 0;");
        same("all", x.arrive(0, 17), 17);
        promise(x, 0, 2, 0, 5, 4);
        promise(x, 1, 3, 0, 5, 4);
        promise(x, 2, 4, 0, 4, 4);
        promise(x, 3, 1, 0, 3, 4);
        x.undo();
        same("just what one can lend", x.arrive(0, 5), 5);
        same("one promise", x.setting(8), 1);
        x.undo();
        same("one cell more", x.arrive(0, 6), 6);
        promise(x, 1, 3, 0, 1, 4);
        x.undo();
        same("less than one can lend", x.arrive(0, 2), 2);
        same("now d can lend most", x.arrive(0, 1), 1);
        promise(x, 1, 3, 0, 1, 4);
        same("then the lowest of d and e", x.arrive(0, 1), 1);
        promise(x, 2, 3, 0, 1, 4);
    }

    static void term3FallsDueTermTicksLater() {
        CellLoans x = made("port a 9 0;port b 0 0;term 99;");
        x.tick(7);
        x.arrive(1, 1);
        same("with term 99", x.promise(0, 3), 106);
        x.setTerm(1);
        x.arrive(1, 1);
        same("with term 1", x.promise(0, 3), 8);
    }

    static void term3BorrowerLosesPacketsOverItsRoom() {
        CellLoans x = made("port a 9 0;port b 2 9;");
        x.arrive(1, 11);
        x.tick(1);
        same("b has two cells in use", x.port(1, 2), 2);
        same("all that a lent is called in", x.arrive(0, 9), 0);
        same("b has room for its packet", x.setting(10), 0);
        x.undo();
        x.arrive(1, 1);
        x.arrive(0, 8);
        same("with three in use and eight called in", x.setting(10), 0);
        same("its room is in use", x.port(1, 3), 0);
        x.arrive(0, 1);
        drop(x, 0, 1, 1, 2, 1, 1);
        same("with nine called in the newest one goes", x.setting(10), 1);
        queue(x, 1, 2);
    }

    static void term3DropsNewestUntilItsRoomIsEnough() {
        CellLoans x = made("port a 9 0;port b 0 0;");
        x.arrive(1, 4);
        x.arrive(1, 2);
        x.arrive(1, 1);
        x.arrive(1, 1);
        same("three are called in of the first promise", x.arrive(0, 4), 0);
        queue(x, 1, 4);
        drop(x, 2, 1, 1, 2, 1, 0);
        drop(x, 1, 1, 1, 2, 1, 0);
        drop(x, 0, 1, 2, 2, 1, 0);
        same("three were dropped", x.dropsBy(2), 3);
        same("a cell is free then", x.port(1, 3), 1);
        x.arrive(0, 1);
        same("as many as its room: none is dropped", x.dropsBy(2), 3);
        same("no cell is free", x.port(1, 3), 0);
        x.arrive(0, 1);
        queue(x, 1);
        same("one more goes with all that it has", x.port(1, 3), 3);
        same("charged", x.port(1, 11), 8);
        same("dropped", x.port(1, 10), 4);
    }

    static void term3DropsAtOnceBehindEachPromise() {
        CellLoans x = threeLoans();
        x.arrive(0, 9);
        same("drops", x.setting(10), 3);
        // 2 from b: its newest; 3 from c; 4 from b: the other one
        drop(x, 2, 1, 4, 2, 1, 0);
        drop(x, 1, 2, 3, 2, 2, 0);
        drop(x, 0, 1, 2, 2, 1, 0);
    }

    static void term3ReasonsAndWhoIsCharged() {
        CellLoans x = made("port a 4 0;port b 0 0;port c 0 0;term 1;");
        x.arrive(1, 2);
        x.arrive(2, 2);
        x.arrive(2, 1);
        x.arrive(0, 1);
        x.tick(1);
        drop(x, 2, 2, 1, 1, 2, 0);
        drop(x, 1, 1, 2, 2, 1, 0);
        drop(x, 0, 2, 2, 3, 2, 1);
        for (int reason = 1; reason <= 3; reason++) {
            same("drops for reason " + reason, x.dropsBy(reason), 1);
        }
        same("a was charged", x.port(0, 11), 0);
        same("b was charged", x.port(1, 11), 2);
        same("c was charged", x.port(2, 11), 3);
    }

    static void term3ChargedForTheCellsYet() {
        CellLoans x = made("port a 9 0;port b 0 2;");
        x.arrive(1, 9);
        x.tick(2);
        same("cells that it has yet", x.packet(1, 0, 0), 5);
        x.arrive(0, 4);
        same("none is missing yet", x.setting(10), 0);
        x.arrive(0, 1);
        drop(x, 0, 1, 5, 2, 1, 2);
        same("charged", x.port(1, 11), 5);
        same("sent", x.port(1, 12), 4);
    }

    // ---- term 4

    static void term4PromisesThatFallDueNow() {
        CellLoans x = made("port a 9 0;port b 0 0;term 1;");
        x.arrive(1, 1);
        x.setTerm(2);
        x.arrive(1, 2);
        x.setTerm(3);
        x.arrive(1, 3);
        x.tick(1);
        same("the first one", x.setting(8), 2);
        same("owed", x.owed(0, 1), 5);
        x.tick(1);
        same("the second one", x.owed(0, 1), 3);
        x.tick(1);
        same("the third one", x.owed(0, 1), 0);
        same("all three packets are gone", x.dropsBy(3), 3);
    }

    static void term4WhatIsGoneDoesNotFallDue() {
        CellLoans undone = loanOfFour();
        undone.undo();
        nothingFallsDue("undone", undone, "a 0/9\nb 0/2\n");
        CellLoans read = loanOfFour();
        Sheet.read(read, "port c 3 0;port d 0 0;");
        nothingFallsDue("another text", read, "c 0/3\nd 0/0\n");
        CellLoans restored = made("port a 9 0;port b 2 0;");
        restored.save();
        restored.arrive(1, 6);
        restored.restore();
        nothingFallsDue("restored", restored, "a 0/9\nb 0/2\n");
        CellLoans calledIn = loanOfFour();
        calledIn.arrive(0, 9);
        nothingFallsDue("called in", calledIn, "a 9/9\nb 0/2\n");
        CellLoans givenBack = made("port a 9 0;port b 2 9;");
        givenBack.arrive(1, 6);
        givenBack.tick(1);
        givenBack.giveBack(1, 0, 4);
        nothingFallsDue("given back", givenBack, "a 0/9\nb 0/2\n");
    }

    /** Port b has borrowed four cells of port a. */
    private static CellLoans loanOfFour() {
        CellLoans x = made("port a 9 0;port b 2 0;");
        x.arrive(1, 6);
        return x;
    }

    private static void nothingFallsDue(String what, CellLoans x, String report) {
        for (int i = 0; i < 6; i++) {
            same(what + ": promises", x.setting(8), 0);
            same(what + ": cells lent", x.setting(6), 0);
            same(what + ": none drops", x.dropsIn(6), 0);
            same(what + ": none fell due", x.dropsBy(3), 0);
            Sheet.report(what, x, report);
            x.tick(1);
        }
    }

    static void term4GivenBackInTheirOrder() {
        CellLoans x = made("port a 9 0;port b 0 0;port c 0 0;term 2;");
        x.arrive(1, 1);
        x.arrive(2, 2);
        x.arrive(1, 3);
        x.tick(2);
        same("drops", x.dropsBy(3), 3);
        // the first promise leaves b a room of 3 for 4 cells: its newest goes
        drop(x, 2, 1, 3, 3, 1, 2);
        drop(x, 1, 2, 2, 3, 2, 2);
        drop(x, 0, 1, 1, 3, 1, 2);
    }

    static void term4GivenBackBeforeAnythingIsSent() {
        CellLoans x = made("port a 9 0;port b 0 4;term 2;");
        x.arrive(1, 8);
        x.tick(1);
        same("four sent", x.port(1, 12), 4);
        x.tick(1);
        same("the other four are dropped", x.port(1, 11), 4);
        same("and not sent", x.port(1, 12), 4);
        CellLoans y = made("port a 9 0;port b 0 4;term 3;");
        y.arrive(1, 8);
        y.tick(3);
        same("a tick more is enough", y.setting(10), 0);
    }

    static void term4SendsItsRate() {
        CellLoans x = made("port a 20 3;port b 20 0;port c 20 9;");
        x.arrive(0, 3);
        x.arrive(0, 3);
        x.arrive(1, 1);
        x.arrive(2, 9);
        x.arrive(2, 1);
        x.tick(1);
        queue(x, 0, 3);
        queue(x, 1, 1);
        queue(x, 2, 1);
        x.tick(1);
        queue(x, 0);
        queue(x, 2);
        same("c sent all that it had", x.port(2, 12), 10);
        same("b sent nothing", x.port(1, 12), 0);
    }

    static void term4SendsOverSeveralPackets() {
        CellLoans x = made("port a 20 9;");
        x.arrive(0, 2);
        x.arrive(0, 3);
        x.arrive(0, 4);
        x.arrive(0, 5);
        x.tick(1);
        queue(x, 0, 5);
        x.undo();
        x.arrive(0, 6);
        x.tick(1);
        queue(x, 0, 5, 6);
        x.tick(1);
        queue(x, 0, 2);
        same("it had six", x.packet(0, 0, 1), 6);
    }

    static void term4QuarterIsDividedTowards0() {
        // forecasts from 16 down: a quarter of what is less than it
        CellLoans x = made("port a 40 0 first 1;");
        int[] due = {12, 9, 7, 6, 5, 4, 3, 3, 3};
        for (int i = 0; i < due.length; i++) {
            x.tick(1);
            same("downwards, tick " + (i + 1), x.port(0, 7), due[i]);
        }
        // 16 - 3 = 13: a quarter is 3; then 16 - 6 = 10: 2; 8: 2; 6: 1; and so on up to 13, as 3 has no quarter
        int[] up = {6, 8, 10, 11, 12, 13, 13};
        for (int i = 0; i < up.length; i++) {
            x.arrive(0, 1);
            x.tick(1);
            same("upwards, tick " + (i + 1), x.port(0, 7), up[i]);
        }
    }

    static void term4CountsAllThatArrivedSinceTheTickBefore() {
        CellLoans x = made("port a 4 0;port b 0 0;");
        x.arrive(0, 4);
        x.arrive(0, 40);
        x.arrive(1, 3);
        x.tick(1);
        same("with the dropped one of a", x.port(0, 7), 176);
        same("with the dropped one of b", x.port(1, 7), 12);
        x.tick(1);
        same("not once more", x.port(0, 7), 132);
        x.arrive(1, 1);
        x.tick(1);
        same("only the last one", x.port(1, 7), 10);
    }

    // ---- promises 25 and 26

    static void promise25CellsFrom1To40() {
        CellLoans x = made("port a 40 0;port b 40 0;");
        badArgument("0 cells", () -> x.arrive(0, 0));
        same("1 cell", x.arrive(0, 1), 0);
        same("40 cells", x.arrive(1, 40), 0);
        badArgument("41 cells", () -> x.arrive(1, 41));
        for (int wild : WILD) {
            badArgument(wild + " cells", () -> x.arrive(0, wild));
        }
        same("arrived", x.setting(11), 2);
    }

    static void promise25PortsThatThereAre() {
        CellLoans x = made("port a 9 0;port b 9 0;");
        same("the last port", x.arrive(1, 1), 0);
        badIndex("port 2", () -> x.arrive(2, 1));
        badIndex("port 2 comes before 0 cells", () -> x.arrive(2, 0));
        for (int wild : WILD) {
            badIndex("port " + wild, () -> x.arrive(wild, 1));
        }
        badIndex("without ports", () -> new CellLoans().arrive(0, 1));
    }

    static void promise25ReturnsBorrowedCells() {
        CellLoans x = made("port a 1 0;port b 4 0;");
        same("none", x.arrive(0, 1), 0);
        same("1", x.arrive(0, 1), 1);
        same("all that b has", x.arrive(0, 3), 3);
        same("dropped", x.arrive(0, 1), -2);
        same("called in: nothing is borrowed", x.arrive(1, 4), 0);
        same("40", made("port a 0 0;port b 20 0;port c 20 0;").arrive(0, 40), 40);
    }

    static void promise25RefusedChangesNothing() {
        Twins.refused("arrive(0, 0)", IllegalArgumentException.class, x -> x.arrive(0, 0));
        Twins.refused("arrive(0, 41)", IllegalArgumentException.class, x -> x.arrive(0, 41));
        Twins.refused("arrive(3, 1)", IndexOutOfBoundsException.class, x -> x.arrive(3, 1));
        Twins.refused("arrive(-1, 1)", IndexOutOfBoundsException.class, x -> x.arrive(-1, 1));
    }

    static void promise26TicksFrom1To99() {
        CellLoans x = made("port a 9 1;");
        badArgument("0 ticks", () -> x.tick(0));
        same("1 tick", x.tick(1), 1);
        same("99 ticks", x.tick(99), 100);
        badArgument("100 ticks", () -> x.tick(100));
        for (int wild : WILD) {
            badArgument(wild + " ticks", () -> x.tick(wild));
        }
        same("the clock", x.setting(3), 100);
    }

    static void promise26ClockTo9999() {
        CellLoans x = made("port a 9 1;");
        clock(x, 9900);
        same("to 9999", x.tick(99), 9999);
        same("none more", x.tick(1), NONE);
        same("nor 99", x.tick(99), NONE);
        badArgument("100 at the end", () -> x.tick(100));
        x.undo();
        same("back again", x.tick(98), 9998);
        same("two more", x.tick(2), NONE);
        same("one more", x.tick(1), 9999);
    }

    static void promise26NoneChangesNothing() {
        Twins.unchanged("tick that returns NONE", CellEdges::late, x -> same("over 9999", x.tick(2), NONE));
    }

    private static CellLoans late() {
        CellLoans x = made("port a 9 1;port b 0 0;term 99;");
        clock(x, 9990);
        x.arrive(1, 3);
        x.arrive(0, 5);
        x.tick(8);
        return x;
    }

    static void promise26WithoutPorts() {
        same("a clock without ports", new CellLoans().tick(99), 99);
    }

    static void promise26RefusedChangesNothing() {
        Twins.refused("tick(0)", IllegalArgumentException.class, x -> x.tick(0));
        Twins.refused("tick(100)", IllegalArgumentException.class, x -> x.tick(100));
        Twins.refused("tick(-1)", IllegalArgumentException.class, x -> x.tick(-1));
    }

    // ---- promise 27

    /** Port b owes 40 cells to a, and all of them are free. */
    private static CellLoans owing() {
        CellLoans x = made("port a 40 0;port b 0 9;port c 0 0;");
        x.setTerm(99);
        x.arrive(1, 40);
        x.tick(5);
        return x;
    }

    static void promise27CellsFrom1To40() {
        CellLoans x = owing();
        badArgument("0 cells", () -> x.giveBack(1, 0, 0));
        badArgument("41 cells", () -> x.giveBack(1, 0, 41));
        for (int wild : WILD) {
            badArgument(wild + " cells", () -> x.giveBack(1, 0, wild));
        }
        same("1 cell", x.giveBack(1, 0, 1), 39);
        x.undo();
        same("40 cells", x.giveBack(1, 0, 40), 0);
        same("the promise is gone", x.setting(8), 0);
    }

    static void promise27PortsThatThereAre() {
        CellLoans x = owing();
        badIndex("port 3", () -> x.giveBack(3, 0, 1));
        badIndex("other 3", () -> x.giveBack(1, 3, 1));
        for (int wild : WILD) {
            badIndex("port " + wild, () -> x.giveBack(wild, 0, 1));
            badIndex("other " + wild, () -> x.giveBack(1, wild, 1));
        }
        badIndex("port 3 comes before 0 cells", () -> x.giveBack(3, 0, 0));
        badIndex("other 3 comes before 41 cells", () -> x.giveBack(1, 3, 41));
        badArgument("0 cells come before what is owed", () -> x.giveBack(0, 1, 0));
        badArgument("41 cells come before what is owed", () -> x.giveBack(1, 0, 41));
    }

    static void promise27NotMoreThanItOwes() {
        CellLoans x = made("port a 9 0;port b 4 9;port c 9 0;");
        x.arrive(1, 6);
        x.tick(1);
        same("it owes", x.owed(0, 1), 2);
        same("it has free", x.port(1, 3), 6);
        badState("3 of 2", () -> x.giveBack(1, 0, 3));
        badState("the other way", () -> x.giveBack(0, 1, 1));
        badState("to another one", () -> x.giveBack(1, 2, 1));
        badState("to itself", () -> x.giveBack(1, 1, 1));
        same("2 of 2", x.giveBack(1, 0, 2), 0);
        badState("1 of 0", () -> x.giveBack(1, 0, 1));
    }

    static void promise27NotMoreThanIsFree() {
        CellLoans x = made("port a 9 0;port b 0 2;");
        x.arrive(1, 5);
        badState("1 of 0 free", () -> x.giveBack(1, 0, 1));
        x.tick(1);
        badState("3 of 2 free", () -> x.giveBack(1, 0, 3));
        same("2 of 2 free", x.giveBack(1, 0, 2), 3);
        same("no packet is dropped", x.setting(10), 0);
        queue(x, 1, 3);
    }

    static void promise27FirstPromiseFirst() {
        CellLoans x = made("port a 9 0;port b 0 9;port c 7 0;");
        x.arrive(1, 3);
        x.arrive(1, 4);
        x.arrive(1, 2);
        promise(x, 0, 0, 1, 3, 4);
        promise(x, 1, 2, 1, 4, 4);
        promise(x, 2, 0, 1, 2, 4);
        x.tick(1);
        same("2 of 5", x.giveBack(1, 0, 2), 3);
        promise(x, 0, 0, 1, 1, 4);
        x.undo();
        same("3 of 5", x.giveBack(1, 0, 3), 2);
        promise(x, 0, 2, 1, 4, 4);
        promise(x, 1, 0, 1, 2, 4);
        x.undo();
        same("4 of 5", x.giveBack(1, 0, 4), 1);
        promise(x, 1, 0, 1, 1, 4);
        same("the promise of c stays", x.owed(2, 1), 4);
        same("a has lent", x.port(0, 4), 1);
        same("b has borrowed", x.port(1, 5), 5);
    }

    static void promise27RefusedChangesNothing() {
        Twins.refused("giveBack(2, 3, 1)", IndexOutOfBoundsException.class, x -> x.giveBack(2, 3, 1));
        Twins.refused("giveBack(2, 0, 0)", IllegalArgumentException.class, x -> x.giveBack(2, 0, 0));
        Twins.refused("giveBack(2, 0, 41)", IllegalArgumentException.class, x -> x.giveBack(2, 0, 41));
        Twins.refused("giveBack(2, 0, 6)", IllegalStateException.class, x -> x.giveBack(2, 0, 6));
        Twins.refused("giveBack(0, 2, 1)", IllegalStateException.class, x -> x.giveBack(0, 2, 1));
    }

    // ---- promises 28 to 30

    static void promise28PlacesThatThereAre() {
        CellLoans x = made("port a 9 0;port b 0 0;");
        badIndex("no promise", () -> x.extend(0));
        x.arrive(1, 1);
        x.arrive(1, 1);
        badIndex("place 2", () -> x.extend(2));
        for (int wild : WILD) {
            badIndex("place " + wild, () -> x.extend(wild));
        }
        same("place 1", x.extend(1), 8);
        same("place 0", x.extend(0), 8);
    }

    static void promise28LatestOfThoseThatFallDueThen() {
        CellLoans x = made("port a 9 0;port b 0 0;term 2;");
        x.arrive(1, 1);
        x.setTerm(4);
        x.arrive(1, 2);
        x.arrive(1, 3);
        x.setTerm(5);
        x.arrive(1, 1);
        x.setTerm(2);
        same("2 and 2", x.extend(0), 4);
        promise(x, 0, 0, 1, 2, 4);
        promise(x, 1, 0, 1, 3, 4);
        promise(x, 2, 0, 1, 1, 4);
        promise(x, 3, 0, 1, 1, 5);
        x.setTerm(1);
        same("4 and 1", x.extend(0), 5);
        promise(x, 2, 0, 1, 1, 5);
        promise(x, 3, 0, 1, 2, 5);
        x.setTerm(99);
        same("the last one", x.extend(3), 104);
        promise(x, 3, 0, 1, 2, 104);
    }

    static void promise28OneMadeLaterIsBehindIt() {
        CellLoans x = made("port a 9 0;port b 0 0;term 1;");
        x.arrive(1, 1);
        same("1 and 1", x.extend(0), 2);
        x.setTerm(2);
        x.arrive(1, 2);
        promise(x, 0, 0, 1, 1, 2);
        promise(x, 1, 0, 1, 2, 2);
    }

    static void promise28LenderWithWhatItKeepsBack() {
        CellLoans x = made("port a 9 0 first 3;port b 0 0;");
        x.arrive(1, 4);
        x.arrive(0, 2);
        same("9 - 4 - 2 are just 3", x.extend(0), 8);
        x.setKeep(101);
        badState("4 are kept back", () -> x.extend(0));
        x.setKeep(100);
        x.arrive(0, 1);
        badState("9 - 4 - 3 are less than 3", () -> x.extend(0));
        badIndex("a wrong place comes first", () -> x.extend(1));
        same("it stays", x.promise(0, 3), 8);
    }

    static void promise28LenderThatUsesBorrowedCells() {
        CellLoans x = made("port a 9 0;port b 0 0;port c 9 0;keep 0;");
        x.arrive(1, 4);
        x.arrive(0, 5);
        same("just 0 left, nothing kept back", x.extend(0), 8);
        same("a borrows, too", x.arrive(0, 5), 5);
        promise(x, 0, 2, 0, 5, 4);
        badState("less than 0 left", () -> x.extend(1));
        same("what c gave can be extended", x.extend(0), 8);
    }

    static void promise28BehindTheEndOfTheClock() {
        CellLoans x = made("port a 9 0;port b 0 0;term 99;");
        clock(x, 9999);
        x.arrive(1, 1);
        same("it falls due", x.promise(0, 3), 10098);
        same("and later", x.extend(0), 10197);
    }

    static void promise28RefusedChangesNothing() {
        Twins.refused("extend(-1)", IndexOutOfBoundsException.class, x -> x.extend(-1));
        Twins.refused("extend(1)", IndexOutOfBoundsException.class, x -> x.extend(1));
        Twins.refused("extend(0)", IllegalStateException.class, x -> x.extend(0));
    }

    static void promise29TermFrom1To99() {
        CellLoans x = new CellLoans();
        badArgument("0", () -> x.setTerm(0));
        same("1", x.setTerm(1), 4);
        same("99", x.setTerm(99), 1);
        badArgument("100", () -> x.setTerm(100));
        for (int wild : WILD) {
            badArgument("" + wild, () -> x.setTerm(wild));
        }
        same("the one before", x.setTerm(5), 99);
    }

    static void promise29ForPromisesFromNowOn() {
        CellLoans x = made("port a 9 0;port b 0 0;");
        x.arrive(1, 1);
        x.setTerm(7);
        same("one that was made before", x.promise(0, 3), 4);
        x.arrive(1, 1);
        same("one that is made now", x.promise(1, 3), 7);
        same("one that is extended now", x.extend(0), 11);
    }

    static void promise29RefusedChangesNothing() {
        Twins.refused("setTerm(0)", IllegalArgumentException.class, x -> x.setTerm(0));
        Twins.refused("setTerm(100)", IllegalArgumentException.class, x -> x.setTerm(100));
    }

    static void promise30KeepFrom0To200() {
        CellLoans x = new CellLoans();
        badArgument("-1", () -> x.setKeep(-1));
        same("0", x.setKeep(0), 100);
        same("200", x.setKeep(200), 0);
        badArgument("201", () -> x.setKeep(201));
        for (int wild : WILD) {
            badArgument("" + wild, () -> x.setKeep(wild));
        }
        same("the one before", x.setKeep(5), 200);
    }

    static void promise30RefusedChangesNothing() {
        Twins.refused("setKeep(-1)", IllegalArgumentException.class, x -> x.setKeep(-1));
        Twins.refused("setKeep(201)", IllegalArgumentException.class, x -> x.setKeep(201));
    }
}
