/** Edges of promises 43, 45, 46: CHANGES, THE IMAGE, BACK. */
final class EdgesOfChanges {
    private static final int MIN = Integer.MIN_VALUE;
    private static final int MAX = Integer.MAX_VALUE;

    private EdgesOfChanges() {
    }

    private static void changes(Due d, int n, int from, int to, int many, int row) {
        BellTongue x = new BellTongue();
        String call = "changes(" + n + ", " + from + ", " + to + ", ";
        d.due(call + "false)", x.changes(n, from, to, false), many);
        d.due(call + "true)", x.changes(n, from, to, true), row);
    }

    // ---- promise 43 ----

    @Holds(promise = 43, says = "CHANGES on n BELLS (2 to 5): rows of these in any order "
        + "(a row as digits from the left, 0 to n - 1);")
    static void rowsOfTwoToFive(Due d) {
        changes(d, 2, 1, 10, 1, 10);
        changes(d, 2, 10, 1, 1, 1);
        changes(d, 3, 12, 21, 1, 21);
        changes(d, 4, 123, 132, 1, 132);
        changes(d, 5, 1234, 1243, 1, 1243);
        changes(d, 5, 43210, 43201, 1, 43201);
        // BELLS need not be told for it
        d.due("about(0)", new BellTongue().about(0), 0);
    }

    @Holds(promise = 43, says = "a change: some (one at least) twos that stand side by side "
        + "change places, each in one of these at most:")
    static void oneChange(Due d) {
        changes(d, 4, 123, 1032, 1, 1032);
        changes(d, 5, 1234, 10324, 1, 10324);
        changes(d, 5, 1234, 10243, 1, 10243);
        changes(d, 5, 1234, 2143, 1, 2143);
        // no BELL may move by two, nor those change that stand apart
        changes(d, 3, 12, 120, 2, 102);
        changes(d, 3, 12, 210, 3, 21);
        // 0 and 3 must move each time: 0123 > 1032 > 1302 > 3120
        changes(d, 4, 123, 3120, 3, 1032);
    }

    @Holds(promise = 43, says = "the fewest changes from a row to another one: how many (0: it is),")
    static void theFewest(Due d) {
        for (int[] same : new int[][] {{2, 1}, {2, 10}, {3, 201}, {4, 3210}, {5, 1234}, {5, 43210}}) {
            changes(d, same[0], same[1], same[1], 0, same[1]);
        }
        BellTongue x = new BellTongue();
        // a row to itself turned round takes as many as there are BELLS, but for two
        d.due("changes(2, 1, 10, false)", x.changes(2, 1, 10, false), 1);
        d.due("changes(3, 12, 210, false)", x.changes(3, 12, 210, false), 3);
        d.due("changes(4, 123, 3210, false)", x.changes(4, 123, 3210, false), 4);
        d.due("changes(5, 1234, 43210, false)", x.changes(5, 1234, 43210, false), 5);
        d.due("changes(5, 43210, 1234, false)", x.changes(5, 43210, 1234, false), 5);
    }

    @Holds(promise = 43, says = {"and the row behind the first of these "
        + "(of like ones the lowest as a number).", "CHANGES from a row to another one: "
        + "how many (row false), the row behind the first (row true; the row itself, if it is)."})
    static void theLowestRow(Due d) {
        // 021 is lower than 102, both are first of three
        changes(d, 3, 12, 210, 3, 21);
        changes(d, 3, 210, 12, 3, 120);
        changes(d, 4, 123, 3210, 4, 213);
        changes(d, 5, 1234, 43210, 5, 2143);
        changes(d, 5, 43210, 1234, 5, 34120);
    }

    @Holds(promise = 43, says = "NONE for others.")
    static void noSuchRows(Due d) {
        int[][] others = {{1, 0, 0}, {6, 12345, 12345}, {0, 0, 0}, {-1, 1, 1}, {MIN, 1, 1},
            {MAX, 1, 1}, {2, 0, 1}, {2, 1, 0}, {2, 11, 1}, {2, 12, 1}, {2, 1, 12}, {2, 101, 1},
            {2, 1, 110}, {2, 11, 11}, {2, 0, 0}, {3, 112, 112}, {4, 1123, 1123},
            {5, 11234, 11234}, {5, 1224, 1224}, {2, -1, 1}, {2, 1, -10}, {3, 1, 12}, {3, 11, 12}, {3, 12, 112},
            {3, 13, 12}, {3, 12, 310}, {3, 1012, 12}, {4, 12, 123}, {4, 123, 1234},
            {5, 123, 1234}, {5, 1234, 12345}, {5, 1235, 1234}, {5, 101234, 1234},
            {5, 1234, 91234}, {5, 1234, MIN}, {5, MAX, 1234}};
        BellTongue x = new BellTongue();
        for (int[] o : others) {
            String call = "changes(" + o[0] + ", " + o[1] + ", " + o[2] + ", ";
            d.due(call + "false)", x.changes(o[0], o[1], o[2], false), -1);
            d.due(call + "true)", x.changes(o[0], o[1], o[2], true), -1);
        }
    }

    // ---- promises 45, 46 ----

    @Holds(promise = 45, says = {"AN IMAGE: all as it is, but the tape and the latest FAULT.",
        "THE IMAGE is as all is now: HOUR."})
    static void theImageIsAllButTheTape(Due d) {
        BellTongue x = new BellTongue();
        d.due("image() at first", x.image(), 0);
        x.hour(9);
        Due.lay(x, "sunday;");
        d.due("image()", x.image(), 9);
        d.due("about(6): the tape stays", x.about(6), 7);
        Due.read(x, "hour 61;");
        Due.lay(x, "wind 3;wind");
        d.due("back()", x.back(), 9);
        d.due("about(6): the tape is as it was", x.about(6), 11);
        d.due("fault(0): so is the FAULT", x.fault(0), 2);
        d.due("fault(1)", x.fault(1), 5);
        x.end(7);
        d.due("text()", x.text(), 0);
        d.due("played(0): its bytes, too", x.played(0), -1);
        d.due("is(0)", x.is(0), 3);
        x.back();
        d.due("about(2)", x.about(2), 0);
        d.due("fault(0): of the latest", x.fault(0), 0);
    }

    @Holds(promise = 45, says = "THE IMAGE is as all is now: HOUR.")
    static void imageAtTheLastHour(Due d) {
        BellTongue x = Scene.words(10);
        Scene.passTo(x, 9999);
        String before = Scene.state(x);
        d.due("image()", x.image(), 9999);
        d.due("it changes nothing", Scene.state(x).equals(before), true);
        x.undo();
        d.due("image()", x.image(), 9998);
        d.due("back()", x.back(), 9998);
        d.due("about(4)", x.about(4), 29);
    }

    @Holds(promise = 46, says = "BACK: all is so again.")
    static void allIsSoAgain(Due d) {
        BellTongue x = Scene.bells(9, 9);
        Scene.word(x, 0, 0, 0);
        Scene.word(x, 2, 1, 0);
        Due.read(x, "follows 1=0; over 1=1;");
        x.by(0);
        x.hands(7);
        x.weight(1, 3);
        x.hears(0, 1);
        x.line(0, 1);
        x.tower(0, 0);
        x.tower(1, 1);
        x.tower(1, 0);
        Scene.ring(x, 0, 0);
        x.sunday();
        x.ring(0);
        x.image();
        String before = Scene.state(x);
        x.bell(1, 1, 1);
        Scene.word(x, 3, 0, 0);
        Due.read(x, "over 1=0;");
        x.by(1);
        x.hands(0);
        x.weight(1, 99);
        x.weight(0, 0);
        x.hears(1, 0);
        x.line(-1, 0);
        x.line(1, 0);
        x.line(2, 2);
        for (int tower = 0; tower < 2; tower++) {
            x.tower(tower, -1);
            x.tower(tower, 1);
            x.tower(tower, 1);
        }
        x.centuries(1, 40);
        for (int i = 0; i < 21; i++) {
            x.sunday();
        }
        d.due("back()", x.back(), 0);
        d.due("all is so again", Scene.state(x).equals(before), true);
        d.due("weights", x.meant(1, 5, true) * 100 + x.meant(1, 5, false), 403);
        d.due("what is heard as what", x.settles(0, 0) * 10 + x.settles(1, 0), 21);
        d.due("LINES", x.pairs() * 10 + x.whose(), 40);
        d.due("towers: 0 and 1 0", x.lies(false), 0);
        x.tower(0, 1);
        x.tower(0, 0);
        d.due("towers: 0 1 0 and 1 0", x.lies(true), 2);
        d.due("played(1): no such TEXT", x.played(1), -2);
        d.due("THE TEXT rules", x.ofBell(0, 3), 1);
        // the STEPS that could be taken back can be
        d.due("undo()", x.undo(), 3);
        d.due("undo()", x.undo(), 2);
        d.due("rung(-1)", x.rung(-1), 2);
    }

    @Holds(promise = 46, says = "BACK: all is so again.")
    static void stepsAreSoAgain(Due d) {
        BellTongue x = new BellTongue();
        x.hour(31);
        x.image();
        x.undo();
        x.hour(60);
        d.due("back()", x.back(), 31);
        for (int i = 29; i >= 0; i--) {
            d.due("undo()", x.undo(), i);
            d.due("is(2)", x.is(2), i + 1);
        }
        d.due("undo()", x.undo(), -1);
    }

    @Holds(promise = 46, says = "BACK: all is so again.")
    static void fullRowsAreSoAgain(Due d) {
        BellTongue x = Scene.bells(9, 9, 9, 9, 9, 9);
        for (int i = 0; i < 10; i++) {
            Scene.word(x, i % 4, i, i % 6);
        }
        for (int i = 0; i < 12; i++) {
            x.tower(0, i % 6);
            x.tower(1, i % 6);
            x.line(i % 4, (i + 1) % 4);
        }
        for (int i = 0; i < 10; i++) {
            x.weight(i, 90 + i);
            x.hears(i, 9 - i);
        }
        x.image();
        for (int tower = 0; tower < 2; tower++) {
            x.tower(tower, -1);
            for (int i = 0; i < 12; i++) {
                x.tower(tower, tower);
            }
        }
        x.line(-1, 0);
        for (int i = 0; i < 8; i++) {
            x.line(i, i);
        }
        for (int i = 0; i < 10; i++) {
            x.weight(i, 1);
            x.hears(i, 0);
        }
        x.back();
        d.due("lies(false)", x.lies(false), -1);
        d.due("lies(true)", x.lies(true), 12);
        d.due("about(5)", x.about(5), 8);
        d.due("pairs()", x.pairs(), 1 << 1 | 1 << 6 | 1 << 11 | 1 << 12);
        x.ring(5);
        // 5 is WORD 5 alone, of weight 95
        d.due("meant(5, 5, false)", x.meant(5, 5, false), 1);
        x.undo();
        d.due("meant(9, 5, true): 945 together", x.meant(9, 5, true), 105);
        d.due("meant(9, 5, false): 99 of them", x.meant(9, 5, false), 11);
        for (int i = 0; i < 10; i++) {
            d.due("settles(" + i + ", 2)", x.settles(i, 2), Math.min(i, 9 - i));
        }
    }

    @Holds(promise = 46, says = "BACK: all is so again.")
    static void otherWordsBehindBack(Due d) {
        BellTongue x = Scene.bells(9);
        Due.read(x, "begins kind=1;");
        x.by(0);
        x.ring(0);
        x.image();
        Scene.word(x, 0, 0, 0);
        d.due("readings(true)", x.readings(true), 0);
        x.back();
        Scene.word(x, 1, 0, 0);
        d.due("readings(true) of another WORD 0", x.readings(true), 1);
    }

    @Holds(promise = 46, says = "BACK to THE IMAGE (it stays): HOUR.")
    static void theImageStays(Due d) {
        BellTongue x = new BellTongue();
        d.due("back() to the first", x.back(), 0);
        x.hour(5);
        x.image();
        for (int i = 0; i < 3; i++) {
            x.hour(60);
            x.bell(9, 0, 1);
            x.ring(0);
            d.due("back()", x.back(), 5);
            d.due("about(0)", x.about(0), 0);
            d.due("about(4)", x.about(4), 5);
            x.undo();
            x.undo();
            d.due("back(): what undo() did is gone, too", x.back(), 5);
        }
        d.due("back(), as it is", x.back(), 5);
        x.hour(1);
        x.image();
        x.hour(1);
        d.due("back() to a later one", x.back(), 6);
    }

    @Holds(promise = 46, says = "BACK to THE IMAGE (it stays): HOUR.")
    static void textsOfTheImageStay(Due d) {
        BellTongue x = Scene.bells(9);
        Due.read(x, "hour 1;");
        x.image();
        for (int i = 0; i < 3; i++) {
            Due.read(x, "hour 2;");
            Due.read(x, "over 1=0;");
            x.by(2);
            d.due("text() with a FAULT", Due.read(x, "hour 3; hour 61;"), -1);
            d.due("ofBell(0, 3)", x.ofBell(0, 3), 0);
            x.back();
            d.due("about(2)", x.about(2), 1);
            d.due("about(3)", x.about(3), -1);
            d.due("ofBell(0, 3)", x.ofBell(0, 3), 1);
            d.due("played(0)", x.played(0), -1);
            d.due("is(2)", x.is(2), 1);
        }
    }
}
