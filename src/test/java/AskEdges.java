/** The edges of promises 8 to 24: what the switch tells, what would happen, what will come. */
final class AskEdges extends Edges {
    private AskEdges() {
    }

    // ---- promises 8 to 12

    static void promise8WhatFrom0To11() {
        CellLoans x = made("port a 5 0;port b 6 0;term 7;keep 8;");
        x.tick(3);
        x.arrive(0, 9);
        x.arrive(0, 2);
        x.arrive(1, 1);
        // one cell was called in of the six that b lent, and a lost its newest packet
        int[] due = {2, 7, 8, 3, 11, 10, 5, 1, 2, 2, 1, 3};
        for (int what = 0; what <= 11; what++) {
            same("setting " + what, x.setting(what), due[what]);
        }
        badArgument("12", () -> x.setting(12));
        for (int wild : WILD) {
            badArgument("" + wild, () -> x.setting(wild));
        }
    }

    static void promise8WithoutPorts() {
        int[] due = {0, 4, 100, 0, 0, 0, 0, 0, 0, 0, 0, 0};
        CellLoans x = new CellLoans();
        for (int what = 0; what <= 11; what++) {
            same("setting " + what, x.setting(what), due[what]);
        }
        badArgument("12", () -> x.setting(12));
    }

    static void promise8RefusedChangesNothing() {
        Twins.refused("setting(-1)", IllegalArgumentException.class, x -> x.setting(-1));
        Twins.refused("setting(12)", IllegalArgumentException.class, x -> x.setting(12));
    }

    static void promise9WhatFrom0To12() {
        CellLoans x = made("port a 5 3 first 2;port b 6 2;keep 75;");
        x.arrive(0, 7);
        x.arrive(0, 30);
        x.tick(1);
        // 592 - 32 = 560, a quarter is 140: 172 sixteenths; 172 * 75 / 1600 = 8.06
        int[] due = {5, 3, 4, 3, 0, 2, 0, 172, 9, 1, 1, 30, 3};
        int[] other = {6, 2, 0, 4, 2, 0, 4, 0, 0, 0, 0, 0, 0};
        for (int what = 0; what <= 12; what++) {
            same("port 0, " + what, x.port(0, what), due[what]);
            same("port 1, " + what, x.port(1, what), other[what]);
        }
        badArgument("13", () -> x.port(0, 13));
        for (int wild : WILD) {
            badArgument("" + wild, () -> x.port(1, wild));
        }
    }

    static void promise9PortsThatThereAre() {
        CellLoans x = made("port a 5 3;port b 6 2;");
        badIndex("port 2", () -> x.port(2, 0));
        badIndex("port 2 comes before 13", () -> x.port(2, 13));
        badIndex("port -1 comes before -1", () -> x.port(-1, -1));
        for (int wild : WILD) {
            badIndex("port " + wild, () -> x.port(wild, 0));
        }
        badIndex("no port", () -> new CellLoans().port(0, 0));
        Sheet.read(x, "port a 1 1;");
        badIndex("a port of the switch before", () -> x.port(1, 0));
        CellLoans six = made("port a 1 1;port b 1 1;port c 1 1;port d 1 1;port e 1 1;port f 9 1;");
        same("port 5", six.port(5, 0), 9);
        badIndex("port 6", () -> six.port(6, 0));
    }

    static void promise9RefusedChangesNothing() {
        Twins.refused("port(3, 0)", IndexOutOfBoundsException.class, x -> x.port(3, 0));
        Twins.refused("port(0, 13)", IllegalArgumentException.class, x -> x.port(0, 13));
    }

    static void promise10PlacesThatThereAre() {
        CellLoans x = made("port a 9 1;port b 9 0;");
        badIndex("an empty queue", () -> x.packet(0, 0, 0));
        x.arrive(0, 2);
        x.arrive(0, 3);
        same("place 1", x.packet(0, 1, 0), 3);
        badIndex("place 2", () -> x.packet(0, 2, 0));
        badIndex("place 0 of another port", () -> x.packet(1, 0, 0));
        for (int wild : WILD) {
            badIndex("place " + wild, () -> x.packet(0, wild, 0));
            badIndex("port " + wild, () -> x.packet(wild, 0, 0));
        }
        x.tick(2);
        badIndex("a place that was sent", () -> x.packet(0, 1, 0));
        badIndex("port 2", () -> x.packet(2, 0, 0));
    }

    static void promise10WhatFrom0To2() {
        CellLoans x = made("port a 9 1;");
        x.tick(5);
        x.arrive(0, 4);
        same("all its cells yet", x.packet(0, 0, 0), 4);
        x.tick(3);
        same("the last cell", x.packet(0, 0, 0), 1);
        same("cells that it had", x.packet(0, 0, 1), 4);
        same("when it arrived", x.packet(0, 0, 2), 5);
        badArgument("3", () -> x.packet(0, 0, 3));
        for (int wild : WILD) {
            badArgument("" + wild, () -> x.packet(0, 0, wild));
        }
        badIndex("place 1 comes before 3", () -> x.packet(0, 1, 3));
        badIndex("port 1 comes before 3", () -> x.packet(1, 0, 3));
    }

    static void promise10PlacesMoveUp() {
        CellLoans x = made("port a 9 1;");
        x.arrive(0, 2);
        x.tick(1);
        x.arrive(0, 3);
        x.tick(1);
        x.arrive(0, 2);
        int[][] due = {{3, 3, 1}, {2, 2, 2}};
        for (int i = 0; i < 2; i++) {
            for (int what = 0; what < 3; what++) {
                same("packet " + i + ", " + what, x.packet(0, i, what), due[i][what]);
            }
        }
    }

    static void promise10RefusedChangesNothing() {
        Twins.refused("packet(0, 1, 0)", IndexOutOfBoundsException.class, x -> x.packet(0, 1, 0));
        Twins.refused("packet(0, 0, 3)", IllegalArgumentException.class, x -> x.packet(0, 0, 3));
    }

    static void promise11PlacesThatThereAre() {
        CellLoans x = made("port a 9 0;port b 0 0;");
        badIndex("no promise", () -> x.promise(0, 0));
        x.arrive(1, 2);
        x.arrive(1, 3);
        promise(x, 1, 0, 1, 3, 4);
        badIndex("place 2", () -> x.promise(2, 0));
        for (int wild : WILD) {
            badIndex("place " + wild, () -> x.promise(wild, 0));
        }
        x.tick(4);
        badIndex("a promise that was given back", () -> x.promise(0, 0));
    }

    static void promise11WhatFrom0To3() {
        CellLoans x = made("port a 0 0;port b 7 0;");
        x.arrive(0, 5);
        promise(x, 0, 1, 0, 5, 4);
        badArgument("4", () -> x.promise(0, 4));
        for (int wild : WILD) {
            badArgument("" + wild, () -> x.promise(0, wild));
        }
        badIndex("place 1 comes before 4", () -> x.promise(1, 4));
    }

    static void promise11RefusedChangesNothing() {
        Twins.refused("promise(1, 0)", IndexOutOfBoundsException.class, x -> x.promise(1, 0));
        Twins.refused("promise(0, 4)", IllegalArgumentException.class, x -> x.promise(0, 4));
    }

    static void promise12PortsThatThereAre() {
        CellLoans x = made("port a 9 0;port b 0 0;");
        x.arrive(1, 9);
        same("all", x.owed(0, 1), 9);
        same("the other way", x.owed(1, 0), 0);
        same("to itself", x.owed(0, 0) + x.owed(1, 1), 0);
        badIndex("port 2", () -> x.owed(2, 0));
        badIndex("other 2", () -> x.owed(0, 2));
        for (int wild : WILD) {
            badIndex("port " + wild, () -> x.owed(wild, 0));
            badIndex("other " + wild, () -> x.owed(0, wild));
        }
        badIndex("no ports", () -> new CellLoans().owed(0, 0));
    }

    static void promise12RefusedChangesNothing() {
        Twins.refused("owed(3, 0)", IndexOutOfBoundsException.class, x -> x.owed(3, 0));
        Twins.refused("owed(0, 3)", IndexOutOfBoundsException.class, x -> x.owed(0, 3));
    }

    // ---- promises 13 to 17

    /** Drops of 1, 2, 3 and more cells, one each tick, at two ports by turns. */
    private static CellLoans dropped(int count) {
        CellLoans x = made("port a 0 0;port b 0 0;");
        for (int cells = 1; cells <= count; cells++) {
            same("dropped", x.arrive(cells % 2, 1 + (cells - 1) % 40), DROPPED);
            x.tick(1);
        }
        return x;
    }

    static void promise13NoDrop() {
        CellLoans x = dropped(0);
        for (int what = 0; what <= 4; what++) {
            same("no drop, " + what, x.drop(0, what), NONE);
        }
        same("without ports", new CellLoans().drop(0, 0), NONE);
    }

    static void promise13LatestOfLessThan20() {
        CellLoans x = dropped(3);
        drop(x, 0, 1, 3, 1, 1, 2);
        drop(x, 2, 1, 1, 1, 1, 0);
        same("no fourth", x.drop(3, 1), NONE);
        same("none before the latest", x.drop(-1, 1), NONE);
    }

    static void promise13Latest20() {
        int[] counts = {19, 20, 21, 39, 40, 41};
        for (int count : counts) {
            CellLoans x = dropped(count);
            int kept = Math.min(20, count);
            drop(x, 0, count % 2, 1 + (count - 1) % 40, 1, count % 2, count - 1);
            for (int i = 0; i < kept; i++) {
                same(count + " drops: cells of " + i, x.drop(i, 1), 1 + (count - 1 - i) % 40);
            }
            same(count + " drops: none behind the last one", x.drop(kept, 1), NONE);
            same(count + " drops: all are counted", x.setting(10), count);
        }
    }

    static void promise13WildPlaces() {
        CellLoans x = dropped(21);
        for (int wild : WILD) {
            same("place " + wild, x.drop(wild, 0), NONE);
        }
        same("place 20", x.drop(20, 4), NONE);
        same("place 40", x.drop(40, 4), NONE);
    }

    static void promise13WhatFrom0To4() {
        CellLoans x = dropped(1);
        drop(x, 0, 1, 1, 1, 1, 0);
        badArgument("5", () -> x.drop(0, 5));
        badArgument("5 where there is no drop", () -> x.drop(1, 5));
        badArgument("5 of a negative place", () -> x.drop(-1, 5));
        for (int wild : WILD) {
            badArgument("" + wild, () -> x.drop(0, wild));
            badArgument(wild + " without drops", () -> new CellLoans().drop(0, wild));
        }
    }

    static void promise13RefusedChangesNothing() {
        Twins.refused("drop(0, 5)", IllegalArgumentException.class, x -> x.drop(0, 5));
        Twins.refused("drop(0, -1)", IllegalArgumentException.class, x -> x.drop(0, -1));
    }

    static void promise14ReasonsFrom1To3() {
        CellLoans x = made("port a 3 0;port b 0 0;term 1;");
        x.arrive(1, 1);
        x.arrive(1, 1);
        x.arrive(1, 1);
        x.arrive(0, 1);
        for (int i = 0; i < 3; i++) {
            x.arrive(1, 2);
        }
        x.tick(1);
        same("refused", x.dropsBy(1), 3);
        same("called in", x.dropsBy(2), 1);
        same("fell due", x.dropsBy(3), 2);
        badArgument("0", () -> x.dropsBy(0));
        badArgument("4", () -> x.dropsBy(4));
        for (int wild : WILD) {
            badArgument("" + wild, () -> x.dropsBy(wild));
        }
    }

    static void promise14AllDropsNotOnlyThoseOfTheLedger() {
        same("21 drops", dropped(21).dropsBy(1), 21);
        same("none", dropped(0).dropsBy(1), 0);
    }

    static void promise14RefusedChangesNothing() {
        Twins.refused("dropsBy(0)", IllegalArgumentException.class, x -> x.dropsBy(0));
        Twins.refused("dropsBy(4)", IllegalArgumentException.class, x -> x.dropsBy(4));
    }

    static void promise15LowestOfSeveral() {
        CellLoans x = made("port a 0 0;port b 0 0;port c 0 0;");
        same("nobody was charged: the lowest of all", x.mostCharged(), 0);
        x.arrive(2, 3);
        same("the only one", x.mostCharged(), 2);
        x.arrive(1, 2);
        same("one cell less", x.mostCharged(), 2);
        x.arrive(1, 1);
        same("as many: the lowest of two", x.mostCharged(), 1);
        x.arrive(2, 1);
        same("one cell more", x.mostCharged(), 2);
        x.arrive(0, 4);
        same("as many: the lowest of all", x.mostCharged(), 0);
    }

    static void promise15NoneWithoutPorts() {
        same("a new object", new CellLoans().mostCharged(), NONE);
        CellLoans x = made("port a 0 0;");
        same("one port", x.mostCharged(), 0);
        x.readText();
        same("no ports any more", x.mostCharged(), NONE);
    }

    static void promise16NoneArrived() {
        same("a new object", new CellLoans().lossShare(), 0.0f);
        same("ports, but no packets", made("port a 1 1;").lossShare(), 0.0f);
    }

    static void promise16AsAFloat() {
        CellLoans x = made("port a 2 0;");
        x.arrive(0, 1);
        same("none of one", x.lossShare(), 0.0f);
        x.arrive(0, 1);
        x.arrive(0, 1);
        same("one of three, as a float", x.lossShare(), 1.0f / 3.0f);
        same("which is no double", x.lossShare() == 1.0 / 3.0 ? 1 : 0, 0);
        CellLoans y = made("port a 0 0;");
        y.arrive(0, 1);
        same("one of one", y.lossShare(), 1.0f);
    }

    static void promise16CountsMoreThanTheLedger() {
        CellLoans x = dropped(21);
        same("21 of 21", x.lossShare(), 1.0f);
        x.readText();
        same("none behind another text", x.lossShare(), 0.0f);
    }

    static void promise17NoPorts() {
        same("a new object", new CellLoans().meanForecast(), 0.0);
        same("ports without forecasts", made("port a 1 1;port b 1 1;").meanForecast(), 0.0);
    }

    static void promise17AsADouble() {
        same("one port", made("port a 1 1 first 40;").meanForecast(), 40.0);
        CellLoans x = made("port a 1 1 first 1;port b 1 1;port c 1 1;");
        same("a third", x.meanForecast(), 16 / 48.0);
        x.tick(1);
        same("a quarter", x.meanForecast(), 12 / 48.0);
        x.tick(1);
        same("nine sixteenths of one port", x.meanForecast(), 9 / 48.0);
        x.tick(1);
        same("a double, no float", x.meanForecast(), 7 / 48.0);
    }

    // ---- promises 18 to 21

    /** Port b has 1 of 9 cells free, of which c borrowed 5; a can lend 3 of 4. */
    private static CellLoans lent() {
        CellLoans x = made("port a 4 0 first 1;port b 9 0;port c 0 0;");
        x.arrive(2, 5);
        x.arrive(1, 3);
        same("b lent", x.owed(1, 2), 5);
        return x;
    }

    static void promise18BorrowsUpToWhatOthersCanLend() {
        CellLoans x = lent();
        same("what is free", x.wouldBorrow(1, 1), 0);
        same("what is called in", x.wouldBorrow(1, 6), 0);
        same("above its share: 1 free, 3 of a, 6 missing", x.wouldBorrow(1, 7), NONE);
        same("one of a", x.wouldBorrow(2, 1), 1);
        same("all that a and b can lend", x.wouldBorrow(2, 4), 4);
        same("one more", x.wouldBorrow(2, 5), NONE);
        x.tick(4);
        same("nothing is in use of c", x.wouldBorrow(2, 6), 6);
    }

    static void promise18CellsFrom1To40() {
        CellLoans x = made("port a 40 0;port b 40 0;");
        badArgument("0", () -> x.wouldBorrow(0, 0));
        same("1", x.wouldBorrow(0, 1), 0);
        same("40", x.wouldBorrow(0, 40), 0);
        badArgument("41", () -> x.wouldBorrow(0, 41));
        for (int wild : WILD) {
            badArgument("" + wild, () -> x.wouldBorrow(1, wild));
            badIndex("port " + wild, () -> x.wouldBorrow(wild, 1));
        }
        badIndex("port 2", () -> x.wouldBorrow(2, 1));
        badIndex("port 2 comes before 41", () -> x.wouldBorrow(2, 41));
    }

    static void promise18ChangesNothing() {
        Twins.unchanged("wouldBorrow(2, 3)", x -> x.wouldBorrow(2, 3));
        Twins.unchanged("wouldBorrow(0, 40)", x -> x.wouldBorrow(0, 40));
        Twins.refused("wouldBorrow(0, 0)", IllegalArgumentException.class, x -> x.wouldBorrow(0, 0));
    }

    static void promise19CallsUpToItsShare() {
        CellLoans x = lent();
        same("what is free", x.wouldCall(1, 1), 0);
        same("one cell", x.wouldCall(1, 2), 1);
        same("up to its share", x.wouldCall(1, 6), 5);
        same("above its share", x.wouldCall(1, 7), 0);
        same("one that borrows", x.wouldCall(2, 1), 0);
    }

    static void promise19CellsFrom1To40() {
        CellLoans x = lent();
        badArgument("0", () -> x.wouldCall(0, 0));
        same("1", x.wouldCall(0, 1), 0);
        same("40", x.wouldCall(0, 40), 0);
        badArgument("41", () -> x.wouldCall(0, 41));
        for (int wild : WILD) {
            badArgument("" + wild, () -> x.wouldCall(1, wild));
            badIndex("port " + wild, () -> x.wouldCall(wild, 1));
        }
        badIndex("port 3", () -> x.wouldCall(3, 1));
        badIndex("port 3 comes before 0", () -> x.wouldCall(3, 0));
        CellLoans y = made("port a 40 0;port b 0 0;");
        y.arrive(1, 40);
        same("all 40 cells", y.wouldCall(0, 40), 40);
    }

    static void promise19ChangesNothing() {
        Twins.unchanged("wouldCall(0, 5)", x -> x.wouldCall(0, 5));
        Twins.refused("wouldCall(0, 41)", IllegalArgumentException.class, x -> x.wouldCall(0, 41));
    }

    static void promise20CountsThisOneToo() {
        CellLoans x = lent();
        same("taken", x.wouldDrop(1, 1), 0);
        same("called in: the packet of c", x.wouldDrop(1, 2), 1);
        same("borrowed", x.wouldDrop(2, 4), 0);
        same("this one alone", x.wouldDrop(2, 5), 1);
        same("this one alone, nothing is called in", x.wouldDrop(1, 7), 1);
        CellLoans y = made("port a 9 0;port b 0 0;");
        for (int i = 0; i < 9; i++) {
            y.arrive(1, 1);
        }
        same("one of nine", y.wouldDrop(0, 1), 1);
        same("nine of nine", y.wouldDrop(0, 9), 9);
        same("none of them", y.wouldDrop(0, 10), 1);
    }

    static void promise20CountsOnlyThoseOfThisArrival() {
        CellLoans x = dropped(21);
        same("one more", x.wouldDrop(0, 1), 1);
        CellLoans y = lent();
        y.arrive(2, 40);
        y.arrive(2, 40);
        same("the packet of c alone", y.wouldDrop(1, 2), 1);
        same("none", y.wouldDrop(1, 1), 0);
    }

    static void promise20CellsFrom1To40() {
        CellLoans x = lent();
        badArgument("0", () -> x.wouldDrop(0, 0));
        same("1", x.wouldDrop(0, 1), 0);
        same("40", x.wouldDrop(0, 40), 1);
        badArgument("41", () -> x.wouldDrop(0, 41));
        for (int wild : WILD) {
            badArgument("" + wild, () -> x.wouldDrop(1, wild));
            badIndex("port " + wild, () -> x.wouldDrop(wild, 1));
        }
        badIndex("port 3", () -> x.wouldDrop(3, 1));
        badIndex("port 3 comes before 41", () -> x.wouldDrop(3, 41));
    }

    static void promise20ChangesNothing() {
        Twins.unchanged("wouldDrop(0, 5)", x -> x.wouldDrop(0, 5));
        Twins.unchanged("wouldDrop(2, 40)", x -> x.wouldDrop(2, 40));
        Twins.refused("wouldDrop(-1, 1)", IndexOutOfBoundsException.class, x -> x.wouldDrop(-1, 1));
    }

    static void promise21From0To40() {
        same("no cell at all", made("port a 0 0;").greatest(0), 0);
        same("one cell", made("port a 1 0;").greatest(0), 1);
        same("40 cells", made("port a 40 0;").greatest(0), 40);
        same("41 cells of two ports", made("port a 40 0;port b 1 0;").greatest(0), 40);
        same("39 cells of two ports", made("port a 20 0;port b 19 0;").greatest(0), 39);
        CellLoans x = made("port a 40 9;port b 40 0;term 99;");
        x.arrive(0, 40);
        x.arrive(0, 40);
        same("all in use", x.greatest(0), 0);
        same("what b can call in", x.greatest(1), 40);
        x.tick(9);
        same("80 free cells", x.port(0, 3), 80);
        same("but 40 at most", x.greatest(0), 40);
    }

    static void promise21IsTheMost() {
        CellLoans x = lent();
        for (int port = 0; port < 3; port++) {
            int most = x.greatest(port);
            same("port " + port + " takes it", x.wouldBorrow(port, most) == NONE ? 1 : 0, 0);
            same("port " + port + " takes no more", x.wouldBorrow(port, most + 1), NONE);
        }
        same("by calling in", x.greatest(1), 6);
        same("by borrowing", x.greatest(2), 4);
        CellLoans y = made("port a 9 9;port b 8 0;keep 0;term 50;");
        y.arrive(0, 17);
        y.tick(2);
        same("by what is free alone", y.greatest(0), 17);
    }

    static void promise21PortsThatThereAre() {
        CellLoans x = lent();
        badIndex("port 3", () -> x.greatest(3));
        for (int wild : WILD) {
            badIndex("port " + wild, () -> x.greatest(wild));
        }
        badIndex("no port", () -> new CellLoans().greatest(0));
        Twins.unchanged("greatest(0)", y -> y.greatest(0));
        Twins.refused("greatest(3)", IndexOutOfBoundsException.class, y -> y.greatest(3));
    }

    // ---- promises 22 to 24

    static void promise22TicksFrom0To200() {
        CellLoans x = loanUntil(200);
        same("0 ticks", x.dropsIn(0), 0);
        same("199 ticks", x.dropsIn(199), 0);
        same("200 ticks", x.dropsIn(200), 1);
        badArgument("201 ticks", () -> x.dropsIn(201));
        for (int wild : WILD) {
            badArgument(wild + " ticks", () -> x.dropsIn(wild));
        }
        same("a tick later than 200", loanUntil(201).dropsIn(200), 0);
        same("without ports", new CellLoans().dropsIn(200), 0);
    }

    /** Port b, which sends nothing, has a packet until its promise falls due. */
    private static CellLoans loanUntil(int time) {
        CellLoans x = made("port a 9 0;port b 0 0;term 99;");
        x.arrive(1, 1);
        for (int calls = 0; calls < 100 && x.promise(0, 3) < time; calls++) {
            x.setTerm(Math.min(99, time - x.promise(0, 3)));
            x.extend(0);
        }
        return x;
    }

    static void promise22OnlyWhatIsStillToCome() {
        CellLoans x = made("port a 9 0;port b 0 1;term 3;");
        x.arrive(1, 40);
        x.arrive(1, 2);
        x.arrive(1, 2);
        x.arrive(1, 1);
        same("what was dropped does not count", x.dropsIn(2), 0);
        same("two of three, the first one was sent", x.dropsIn(3), 2);
        same("behind them nothing", x.dropsIn(200), 2);
        x.tick(2);
        same("in the next tick", x.dropsIn(1), 2);
        x.tick(1);
        same("none any more", x.dropsIn(200), 0);
    }

    static void promise22BehindTheEndOfTheClock() {
        CellLoans x = made("port a 9 0;port b 0 0;term 99;");
        clock(x, 9999);
        x.arrive(1, 1);
        same("98 ticks", x.dropsIn(98), 0);
        same("99 ticks", x.dropsIn(99), 1);
    }

    static void promise22ChangesNothing() {
        Twins.unchanged("dropsIn(200)", x -> x.dropsIn(200));
        Twins.unchanged("dropsIn(0)", x -> x.dropsIn(0));
        Twins.refused("dropsIn(201)", IllegalArgumentException.class, x -> x.dropsIn(201));
        Twins.refused("dropsIn(-1)", IllegalArgumentException.class, x -> x.dropsIn(-1));
    }

    static void promise23EmptyNow() {
        same("a new object", new CellLoans().emptyIn(), 0);
        CellLoans x = made("port a 9 9;");
        same("no packet yet", x.emptyIn(), 0);
        x.arrive(0, 9);
        same("one tick", x.emptyIn(), 1);
        same("no room for another", x.arrive(0, 1), DROPPED);
        same("a dropped packet does not wait", x.emptyIn(), 1);
        x.tick(1);
        same("sent", x.emptyIn(), 0);
    }

    static void promise23In500TicksAtMost() {
        same("499", loanUntil(499).emptyIn(), 499);
        same("500", loanUntil(500).emptyIn(), 500);
        same("501", loanUntil(501).emptyIn(), NONE);
        CellLoans x = made("port a 9 0;port b 9 1;");
        x.arrive(0, 1);
        same("rate 0", x.emptyIn(), NONE);
        x.undo();
        x.arrive(1, 9);
        same("9 ticks", x.emptyIn(), 9);
    }

    static void promise23BehindTheEndOfTheClock() {
        CellLoans x = made("port a 40 1;");
        clock(x, 9999);
        x.arrive(0, 40);
        same("40 ticks", x.emptyIn(), 40);
    }

    static void promise23ChangesNothing() {
        Twins.unchanged("emptyIn()", x -> x.emptyIn());
    }

    static void promise24PlacesThatThereAre() {
        CellLoans x = made("port a 9 2;port b 9 0;");
        badIndex("an empty queue", () -> x.sentIn(0, 0));
        x.arrive(0, 2);
        x.arrive(0, 3);
        same("place 0", x.sentIn(0, 0), 1);
        same("place 1", x.sentIn(0, 1), 3);
        badIndex("place 2", () -> x.sentIn(0, 2));
        badIndex("place 0 of another port", () -> x.sentIn(1, 0));
        badIndex("port 2", () -> x.sentIn(2, 0));
        for (int wild : WILD) {
            badIndex("place " + wild, () -> x.sentIn(0, wild));
            badIndex("port " + wild, () -> x.sentIn(wild, 0));
        }
        badIndex("no port", () -> new CellLoans().sentIn(0, 0));
    }

    static void promise24NotSent() {
        CellLoans x = made("port a 9 0;port b 0 2;term 3;");
        x.arrive(0, 1);
        same("rate 0", x.sentIn(0, 0), NONE);
        x.arrive(1, 4);
        same("sent whole in time", x.sentIn(1, 0), 2);
        x.arrive(1, 1);
        same("in the tick in which the promise falls due", x.sentIn(1, 1), NONE);
        x.undo();
        x.undo();
        x.arrive(1, 5);
        same("sent but for one cell", x.sentIn(1, 0), NONE);
    }

    static void promise24OldestStaysWhenNewestIsDropped() {
        CellLoans x = made("port a 9 0;port b 1 1;term 2;");
        x.arrive(1, 2);
        x.arrive(1, 1);
        x.arrive(1, 1);
        same("the first keeps the share of b", x.sentIn(1, 0), 2);
        same("the second", x.sentIn(1, 1), NONE);
        same("the third", x.sentIn(1, 2), NONE);
        same("two are dropped", x.dropsIn(2), 2);
    }

    static void promise24LongestQueue() {
        CellLoans x = made("port a 40 1;port b 40 0;port c 40 0;port d 40 0;port e 40 0;port f 40 0;term 99;keep 0;");
        for (int i = 0; i < 6; i++) {
            x.arrive(0, 40);
        }
        for (int i = 0; i < 10; i++) {
            same("extended", x.extend(0), i < 5 ? 198 : 297);
        }
        same("the last of 240 cells", x.sentIn(0, 5), 240);
        same("the first packet", x.sentIn(0, 0), 40);
        same("empty", x.emptyIn(), 240);
    }

    static void promise24BehindTheEndOfTheClock() {
        CellLoans x = made("port a 40 1;");
        clock(x, 9999);
        x.arrive(0, 40);
        same("40 ticks", x.sentIn(0, 0), 40);
    }

    static void promise24ChangesNothing() {
        Twins.unchanged("sentIn(0, 0)", x -> x.sentIn(0, 0));
        Twins.unchanged("sentIn(2, 1)", x -> x.sentIn(2, 1));
        Twins.refused("sentIn(0, 1)", IndexOutOfBoundsException.class, x -> x.sentIn(0, 1));
        Twins.refused("sentIn(3, 0)", IndexOutOfBoundsException.class, x -> x.sentIn(3, 0));
    }
}
