/** Edges of promises 10 to 17, 21 to 23: STEPS, RUNG, HEARD, BOOK, and V's CENTURIES. */
final class EdgesOfSteps {
    private static final int MIN = Integer.MIN_VALUE;
    private static final int MAX = Integer.MAX_VALUE;

    private EdgesOfSteps() {
    }

    private static void nothingDone(Due d, BellTongue x, String before) {
        d.due("nothing is done", Scene.state(x).equals(before), true);
    }

    // ---- promise 10 ----

    @Holds(promise = 10, says = {"A STROKE: a BELL whose MEN are no more than HANDS (RUNG isn't full):",
        "it is RUNG, and HEARD, if over is so (as all is).", "A STROKE: whether it was HEARD (1, 0)."})
    static void aStrokeAtItsEdges(Due d) {
        BellTongue x = new BellTongue();
        x.bell(2, 0, 1);
        x.bell(3, 0, 4);
        x.hands(4);
        d.due("ring(0): LOUD is WIND", x.ring(0), 0);
        d.due("ring(1): one more, MEN are HANDS", x.ring(1), 1);
        d.due("rung(0)", x.rung(0), 0);
        d.due("rung(1)", x.rung(1), 11);
        Scene.ringTimes(x, 0, 21);
        d.due("ring(1), the 24th", x.ring(1), 1);
        d.due("rung(-1)", x.rung(-1), 24);
        d.due("heard(-1)", x.heard(-1), 2);
        d.rule(x, "over strokes<1;");
        x.sunday();
        d.due("ring(0): as all is ahead of it", x.ring(0), 1);
        d.due("ring(0)", x.ring(0), 0);
    }

    @Holds(promise = 10, says = "NONE, if it can't be, and for others.")
    static void noStroke(Due d) {
        BellTongue x = new BellTongue();
        d.due("ring(0) without BELLS", x.ring(0), -1);
        x.bell(9, 0, 5);
        x.bell(9, 0, 1);
        x.hands(4);
        String before = Scene.state(x);
        for (int bell : new int[] {0, 2, 5, 6, -1, -2, MIN, MAX}) {
            d.due("ring(" + bell + ")", x.ring(bell), -1);
        }
        nothingDone(d, x, before);
        x.hands(0);
        d.due("ring(1) without HANDS", x.ring(1), -1);
        x.hands(99);
        Scene.ringTimes(x, 1, 24);
        before = Scene.state(x);
        d.due("ring(1): RUNG is full", x.ring(1), -1);
        nothingDone(d, x, before);
    }

    // ---- promise 11 ----

    @Holds(promise = 11, says = {"SPOKEN: a WORD all of whose BELLS' MEN are no more than HANDS each "
        + "(RUNG has room for all):", "its STROKES one behind the other, over asked of each as it comes.",
        "SPOKEN: how many of its STROKES were HEARD."})
    static void spokenAtItsEdges(Due d) {
        BellTongue x = new BellTongue();
        x.bell(2, 0, 3);
        x.bell(9, 0, 3);
        Scene.word(x, 0, 0, 0, 1, 0, 1);
        Scene.word(x, 0, 0, 0);
        Scene.word(x, 0, 0, 1, 1, 1, 1);
        x.hands(3);
        d.due("speak(0): each by 3, not all together", x.speak(0), 2);
        d.due("speak(1): none HEARD", x.speak(1), 0);
        d.due("speak(2): all HEARD", x.speak(2), 4);
        int[] want = {0, 11, 0, 11, 0, 11, 11, 11, 11};
        for (int i = 0; i < want.length; i++) {
            d.due("rung(" + i + ")", x.rung(i), want[i]);
        }
        Scene.ringTimes(x, 0, 11);
        d.due("speak(0): room for just four", x.speak(0), 2);
        d.due("rung(-1)", x.rung(-1), 24);
        x.sunday();
        d.rule(x, "over strokes=3 or strokes=4;");
        d.due("speak(2): the fourth alone", x.speak(2), 1);
        d.due("speak(2): the first alone", x.speak(2), 1);
        d.due("rung(3)", x.rung(3), 11);
        d.due("rung(4)", x.rung(4), 11);
        d.due("rung(5)", x.rung(5), 1);
    }

    @Holds(promise = 11, says = "NONE, if it can't be, and for others.")
    static void notSpoken(Due d) {
        BellTongue x = new BellTongue();
        x.bell(9, 0, 1);
        x.bell(9, 0, 5);
        d.due("speak(0) without WORDS", x.speak(0), -1);
        Scene.word(x, 0, 0, 0, 0, 0, 1);
        Scene.word(x, 0, 0, 1, 0);
        Scene.word(x, 0, 0, 0);
        x.hands(4);
        String before = Scene.state(x);
        for (int word : new int[] {0, 1, 3, 9, 10, -1, -2, MIN, MAX}) {
            d.due("speak(" + word + ")", x.speak(word), -1);
        }
        nothingDone(d, x, before);
        x.hands(5);
        Scene.ringTimes(x, 0, 21);
        before = Scene.state(x);
        d.due("speak(0): room for three of four", x.speak(0), -1);
        nothingDone(d, x, before);
        d.due("speak(1)", x.speak(1), 2);
        d.due("speak(1): room for one of two", x.speak(1), -1);
        d.due("speak(2)", x.speak(2), 1);
        d.due("speak(2): RUNG is full", x.speak(2), -1);
        d.due("rung(-1)", x.rung(-1), 24);
    }

    // ---- promise 12 ----

    @Holds(promise = 12, says = {"WIND, FROST 0 .. 9 (at first 2, 0),",
        "SET: WIND (frost false), FROST (frost true): true."})
    static void setAtItsEdges(Due d) {
        BellTongue x = new BellTongue();
        d.due("is(0) at first", x.is(0), 2);
        d.due("is(1) at first", x.is(1), 0);
        d.due("set(false, 0)", x.set(false, 0), true);
        d.due("set(true, 9)", x.set(true, 9), true);
        d.due("is(0)", x.is(0), 0);
        d.due("is(1)", x.is(1), 9);
        d.due("set(false, 9)", x.set(false, 9), true);
        d.due("set(true, 0)", x.set(true, 0), true);
        d.due("is(0)", x.is(0), 9);
        d.due("is(1)", x.is(1), 0);
        d.due("about(4)", x.about(4), 4);
        d.due("is(4): nothing is drawn", x.is(4), 101);
    }

    @Holds(promise = 12, says = "False for others, and if it is so.")
    static void notSet(Due d) {
        BellTongue x = new BellTongue();
        String before = Scene.state(x);
        for (int to : new int[] {-1, 10, MIN, MAX}) {
            d.due("set(false, " + to + ")", x.set(false, to), false);
            d.due("set(true, " + to + ")", x.set(true, to), false);
        }
        d.due("set(false, 2): it is so", x.set(false, 2), false);
        d.due("set(true, 0): it is so", x.set(true, 0), false);
        nothingDone(d, x, before);
        d.due("set(true, 2): WIND's, not its own", x.set(true, 2), true);
        d.due("set(true, 2): it is so", x.set(true, 2), false);
        d.due("about(4)", x.about(4), 1);
    }

    // ---- promise 13 ----

    @Holds(promise = 13, says = {"HOUR 0 .. 9999 (at first 0).", "HOURS pass (1 .. 60): HOUR."})
    static void hoursAtTheirEdges(Due d) {
        BellTongue x = new BellTongue();
        d.due("is(2) at first", x.is(2), 0);
        d.due("hour(1)", x.hour(1), 1);
        d.due("hour(60)", x.hour(60), 61);
        Scene.passTo(x, 9998);
        d.due("hour(1): the last", x.hour(1), 9999);
        d.due("is(2)", x.is(2), 9999);
    }

    @Holds(promise = 13, says = {"AN HOUR: HOUR is one more, WIND a draw by 10, "
        + "FROST one more or less: a draw by 3 less 1 (from 0 to 9).",
        "A draw by m: X mod m, X being (X * 313 + 199) mod 30341 then."})
    static void drawsOfHours(Due d) {
        for (int edge : new int[] {0, 9}) {
            boolean stood = false;
            BellTongue x = new BellTongue();
            int seed = 101;
            for (int i = 1; i <= 60; i++) {
                x.set(true, edge);
                int wind = seed % 10;
                seed = Scene.turned(seed);
                int frost = edge + seed % 3 - 1;
                stood |= frost < 0 || frost > 9;
                seed = Scene.turned(seed);
                d.due("hour(1)", x.hour(1), i);
                d.due("is(0)", x.is(0), wind);
                d.due("is(1) from " + edge, x.is(1), Math.max(0, Math.min(9, frost)));
                d.due("is(4)", x.is(4), seed);
            }
            d.due("FROST would have left 0 .. 9", stood, true);
        }
        BellTongue one = new BellTongue();
        BellTongue other = new BellTongue();
        for (int i = 0; i < 7; i++) {
            one.hour(1);
        }
        other.hour(7);
        d.due("hour(7) is hour(1) seven times", Scene.state(one).equals(Scene.state(other)), true);
    }

    @Holds(promise = 13, says = "NONE for others, or beyond 9999 (nothing is done then).")
    static void hoursThatCannotPass(Due d) {
        BellTongue x = new BellTongue();
        String before = Scene.state(x);
        for (int n : new int[] {0, 61, -1, MIN, MAX}) {
            d.due("hour(" + n + ")", x.hour(n), -1);
        }
        nothingDone(d, x, before);
        Scene.passTo(x, 9940);
        before = Scene.state(x);
        d.due("hour(60): to 10000", x.hour(60), -1);
        nothingDone(d, x, before);
        d.due("hour(59)", x.hour(59), 9999);
        before = Scene.state(x);
        d.due("hour(1)", x.hour(1), -1);
        d.due("hour(60)", x.hour(60), -1);
        nothingDone(d, x, before);
    }

    // ---- promise 14 ----

    @Holds(promise = 14, says = {"A SUNDAY ENDS: it is written down, nothing is RUNG.",
        "A SUNDAY ENDS: READINGS with sense."})
    static void sundaysAtTheirEdges(Due d) {
        BellTongue x = Scene.words(10);
        d.due("sunday() without STROKES", x.sunday(), 1);
        d.due("about(4): a STEP, too", x.about(4), 1);
        Scene.ringTimes(x, 0, 24);
        d.due("sunday() of 24", x.sunday(), 1000000);
        d.due("rung(-1): nothing is RUNG", x.rung(-1), 0);
        d.due("heard(-1)", x.heard(-1), 0);
        d.due("book(1, 1)", x.book(1, 1), 24);
        d.due("book(1, 3)", x.book(1, 3), 1000000);
        d.rule(x, "begins 1=0;");
        x.ring(0);
        d.due("sunday() without sense", x.sunday(), 0);
        d.due("sunday() of nothing, by that law", x.sunday(), 1);
        d.due("is(2): no HOUR passes", x.is(2), 0);
        d.due("is(4): nothing is drawn", x.is(4), 101);
        BellTongue y = Scene.bells(9);
        y.ring(0);
        d.due("sunday() without WORDS", y.sunday(), 0);
    }

    // ---- promise 15 ----

    @Holds(promise = 15, says = {"PLAYED by a TEXT: its CLAUSES but laws, in their order, as by hand;",
        "PLAYED by a TEXT: NONE: all is done;"})
    static void playedInFull(Due d) {
        BellTongue x = new BellTongue();
        x.text();
        d.due("played(0) without CLAUSES", x.played(0), -1);
        Due.read(x, "over 1=0; begins 1=0; follows 1=0;");
        d.due("played(1): laws alone", x.played(1), -1);
        d.due("about(3): it does not rule by that", x.about(3), -1);
        d.due("about(4)", x.about(4), 0);
        Due.read(x, "bell 9 pitch 1 men 9;word 3 means 9:0 0;speak 0;ring 0;wind 9;frost 9;"
                + "ring 0;hour 60;sunday;wind 0;");
        x.set(false, 1);
        d.due("played(2)", x.played(2), -1);
        // speak, ring, wind, frost, ring, 60 HOURS, sunday, wind: 30 can be taken back
        d.due("about(4)", x.about(4), 30);
        d.due("book(0, 0)", x.book(0, 0), 60);
        d.due("book(0, 1)", x.book(0, 1), 4);
        d.due("is(0)", x.is(0), 0);
        BellTongue by = new BellTongue();
        by.bell(9, 1, 9);
        by.word(0, 0, -1, -1, 3, 9);
        by.set(false, 1);
        by.speak(0);
        by.ring(0);
        by.set(false, 9);
        by.set(true, 9);
        by.ring(0);
        by.hour(60);
        by.sunday();
        by.set(false, 0);
        d.due("as by hand", by.is(4) == x.is(4) && by.is(1) == x.is(1)
                && by.book(0, 2) == x.book(0, 2) && by.book(0, 3) == x.book(0, 3), true);
    }

    @Holds(promise = 15, says = "as by hand;")
    static void aPlayedSundayIsAStepWithSense(Due d) {
        BellTongue x = Scene.words(2);
        Due.read(x, "begins means=1; ring 0; sunday;");
        x.by(0);
        d.due("played(0)", x.played(0), -1);
        d.due("about(4)", x.about(4), 2);
        d.due("book(0, 3): one of two", x.book(0, 3), 1);
        d.due("undo()", x.undo(), 1);
        d.due("rung(-1)", x.rung(-1), 1);
        d.due("book(-1, 0)", x.book(-1, 0), 0);
    }

    @Holds(promise = 15, says = {"one that can't be ends it", "its number among all CLAUSES (from 0);",
        "else the number of the CLAUSE that can't be."})
    static void playedTillOneCannotBe(Due d) {
        endsAt(d, "ring 1;", 0);
        endsAt(d, "over 1=1;ring 1;", 1);
        endsAt(d, "over 1=1;follows 1=1;begins 1=1;ring 0;speak 1;sunday;", 4);
        endsAt(d, "wind 2;", 0);
        endsAt(d, "frost 0;", 0);
        endsAt(d, "word 0 means 0:1;", 0);
        endsAt(d, "word 0 means 0:0 0 0 1;", 0);
        endsAt(d, "word 0 means 0:0;".repeat(10), 9);
        endsAt(d, "bell 1 pitch 1 men 1;".repeat(6), 5);
        endsAt(d, "ring 0;sunday;".repeat(11) + "sunday;ring 5;", 23);
        endsAt(d, "ring 0;".repeat(24), -1);
        endsAt(d, "word 0 means 0:0 0 0 0;" + "speak 1;".repeat(6) + "ring 0;", 7);
    }

    private static void endsAt(Due d, String text, int clause) {
        BellTongue x = Scene.words(1);
        Due.read(x, text);
        d.due("played(0) of " + text, x.played(0), clause);
    }

    @Holds(promise = 15, says = "(of so many HOURS those that can pass do):")
    static void playedHoursAtTheEnd(Due d) {
        BellTongue x = new BellTongue();
        Due.read(x, "hour 60; sunday;");
        Scene.passTo(x, 9940);
        x.image();
        int seed = x.is(4);
        for (int i = 0; i < 118; i++) {
            seed = Scene.turned(seed);
        }
        d.due("played(0)", x.played(0), 0);
        d.due("is(2): 59 of 60", x.is(2), 9999);
        d.due("is(4): by their draws", x.is(4), seed);
        d.due("book(-1, 0)", x.book(-1, 0), 0);
        String before = Scene.state(x);
        d.due("played(0) at 9999: none can", x.played(0), 0);
        nothingDone(d, x, before);
        x.back();
        x.undo();
        d.due("is(2)", x.is(2), 9939);
        d.due("played(0): all 60", x.played(0), -1);
        d.due("is(2)", x.is(2), 9999);
        d.due("book(0, 0)", x.book(0, 0), 9999);
    }

    @Holds(promise = 15, says = "what was done stays.")
    static void whatWasPlayedStays(Due d) {
        BellTongue x = new BellTongue();
        Due.read(x, "bell 9 pitch 1 men 1; ring 0; wind 7; ring 1; sunday;");
        d.due("played(0)", x.played(0), 3);
        d.due("about(0)", x.about(0), 1);
        d.due("rung(-1)", x.rung(-1), 1);
        d.due("is(0)", x.is(0), 7);
        d.due("book(-1, 0)", x.book(-1, 0), 0);
        d.due("about(4)", x.about(4), 2);
        d.due("played(0) again: the WIND is so", x.played(0), 2);
        d.due("about(0)", x.about(0), 2);
        d.due("rung(-1)", x.rung(-1), 2);
    }

    @Holds(promise = 15, says = "-2 for others.")
    static void noTextToPlay(Due d) {
        BellTongue x = new BellTongue();
        d.due("played(0) without TEXTS", x.played(0), -2);
        for (int i = 0; i < 4; i++) {
            Due.read(x, "hour 1;");
            d.due("played(" + (i + 1) + ")", x.played(i + 1), -2);
        }
        for (int text : new int[] {-1, -2, MIN, MAX}) {
            d.due("played(" + text + ")", x.played(text), -2);
        }
        d.due("is(2)", x.is(2), 0);
    }

    // ---- promise 16 ----

    @Holds(promise = 16, says = {"CENTURIES by a SEED: X is SEED (0 .. 9999) * 2 + 101;",
        "n times (1 .. 40): x is X, X anew (as in a draw):"})
    static void centuriesAtTheirEdges(Due d) {
        BellTongue x = Scene.words(1);
        d.due("centuries(0, 1)", x.centuries(0, 1), 0);
        d.due("is(4)", x.is(4), Scene.turned(101));
        // 20099 by 5 is 4: an HOUR with two draws more
        d.due("centuries(9999, 1)", x.centuries(9999, 1), 1);
        int seed = Scene.turned(20099);
        d.due("is(0)", x.is(0), seed % 10);
        d.due("is(4)", x.is(4), Scene.turned(Scene.turned(seed)));
        // without HANDS, of 40 the HOURS and SUNDAYS remain
        x.back();
        x.bell(9, 0, 1);
        Scene.word(x, 0, 0, 0);
        x.hands(0);
        int hours = 0;
        int sundays = 0;
        seed = 101;
        for (int i = 0; i < 40; i++) {
            int drawn = seed;
            seed = Scene.turned(seed);
            sundays += drawn % 5 == 2 ? 1 : 0;
            if (drawn % 5 > 2) {
                hours++;
                seed = Scene.turned(Scene.turned(seed));
            }
        }
        d.due("centuries(0, 40)", x.centuries(0, 40), hours);
        d.due("is(4)", x.is(4), seed);
        d.due("book(-1, 0)", x.book(-1, 0), Math.min(20, sundays));
    }

    @Holds(promise = 16, says = "x mod 5: 0 a STROKE of BELL x mod how many there are (if it can be);")
    static void centuriesWithAStroke(Due d) {
        // SEED 2: X is 105; BELL 105 mod 4 is 1
        BellTongue x = Scene.bells(9, 9, 9);
        x.bell(9, 9, 9);
        Scene.word(x, 0, 0, 0);
        d.due("centuries(2, 1)", x.centuries(2, 1), 0);
        d.due("rung(-1)", x.rung(-1), 1);
        d.due("rung(0)", x.rung(0), 11);
        x.hands(0);
        d.due("centuries(2, 1): it can't be", x.centuries(2, 1), 0);
        d.due("rung(-1)", x.rung(-1), 1);
        d.due("is(4)", x.is(4), Scene.turned(105));
        x.hands(9);
        Scene.ringTimes(x, 0, 23);
        d.due("centuries(2, 1): RUNG is full", x.centuries(2, 1), 0);
        d.due("rung(-1)", x.rung(-1), 24);
        d.due("about(4): a STEP all the same", x.about(4), 26);
    }

    @Holds(promise = 16, says = "1 the WORD x mod how many there are is SPOKEN (if it can be);")
    static void centuriesWithAWord(Due d) {
        // SEED 0: X is 101; WORD 101 mod 3 is 2
        BellTongue x = Scene.words(2);
        Scene.word(x, 0, 0, 0, 0, 0, 0);
        x.centuries(0, 1);
        d.due("rung(-1)", x.rung(-1), 4);
        x.hands(0);
        x.centuries(0, 1);
        d.due("rung(-1): without HANDS", x.rung(-1), 4);
        x.hands(9);
        Scene.ringTimes(x, 0, 17);
        x.centuries(0, 1);
        d.due("rung(-1): room for three of four", x.rung(-1), 21);
        x.undo();
        x.undo();
        x.centuries(0, 1);
        d.due("rung(-1): room for four", x.rung(-1), 24);
    }

    @Holds(promise = 16, says = "2 a SUNDAY ENDS;")
    static void centuriesWithASunday(Due d) {
        // SEED 3: X is 107
        BellTongue x = Scene.words(1);
        Scene.ring(x, 0, 0);
        d.due("centuries(3, 1)", x.centuries(3, 1), 0);
        d.due("rung(-1)", x.rung(-1), 0);
        d.due("book(0, 1)", x.book(0, 1), 2);
        d.due("book(0, 3)", x.book(0, 3), 1);
        d.due("is(4)", x.is(4), Scene.turned(107));
        d.rule(x, "begins 1=0;");
        x.ring(0);
        x.centuries(3, 1);
        d.due("book(1, 3): with sense", x.book(1, 3), 0);
        for (int i = 0; i < 20; i++) {
            x.centuries(3, 1);
        }
        d.due("book(-1, 0): the latest 20", x.book(-1, 0), 20);
        d.due("book(0, 1)", x.book(0, 1), 0);
    }

    @Holds(promise = 16, says = "else an HOUR (9999 stays: then nothing).")
    static void centuriesAtTheLastHour(Due d) {
        // SEEDS 1 and 4: X is 103, 109
        BellTongue x = Scene.words(1);
        Scene.passTo(x, 9998);
        d.due("centuries(1, 1)", x.centuries(1, 1), 9999);
        x.set(false, x.is(0) == 5 ? 6 : 5);
        int wind = x.is(0);
        int frost = x.is(1);
        d.due("centuries(1, 1): nothing", x.centuries(1, 1), 9999);
        d.due("is(4): x alone is drawn", x.is(4), Scene.turned(103));
        d.due("centuries(4, 1): nothing", x.centuries(4, 1), 9999);
        d.due("is(4)", x.is(4), Scene.turned(109));
        d.due("is(0)", x.is(0), wind);
        d.due("is(1)", x.is(1), frost);
    }

    @Holds(promise = 16, says = {"It is one STEP: HOUR.", "CENTURIES: HOUR."})
    static void centuriesAreOneStep(Due d) {
        BellTongue x = Scene.words(3);
        x.hour(2);
        x.ring(0);
        String before = Scene.state(x);
        int hour = x.centuries(4711, 40);
        d.due("is(2)", x.is(2), hour);
        d.due("about(4)", x.about(4), 4);
        d.due("undo()", x.undo(), 3);
        nothingDone(d, x, before);
    }

    @Holds(promise = 16, says = "NONE for others, and without BELLS or WORDS.")
    static void noCenturies(Due d) {
        BellTongue x = new BellTongue();
        String before = Scene.state(x);
        d.due("centuries(0, 1) without BELLS", x.centuries(0, 1), -1);
        nothingDone(d, x, before);
        x = Scene.bells(9);
        before = Scene.state(x);
        d.due("centuries(0, 1) without WORDS", x.centuries(0, 1), -1);
        nothingDone(d, x, before);
        x = Scene.words(1);
        before = Scene.state(x);
        int[][] others = {{-1, 1}, {10000, 1}, {0, 0}, {0, 41}, {0, -1}, {MIN, 1}, {MAX, 1},
            {0, MIN}, {0, MAX}};
        for (int[] o : others) {
            d.due("centuries(" + o[0] + ", " + o[1] + ")", x.centuries(o[0], o[1]), -1);
        }
        nothingDone(d, x, before);
    }

    // ---- promise 17 ----

    @Holds(promise = 17, says = "STEPS: a STROKE, SPOKEN, an HOUR (each), a SUNDAY, "
        + "SET (WIND, FROST), CENTURIES (see V):")
    static void eachSortOfStep(Due d) {
        BellTongue x = Scene.words(1);
        int steps = 0;
        x.ring(0);
        d.due("about(4): a STROKE", x.about(4), ++steps);
        Scene.word(x, 0, 0, 0, 0, 0, 0);
        x.speak(1);
        d.due("about(4): SPOKEN", x.about(4), ++steps);
        x.hour(3);
        steps += 3;
        d.due("about(4): HOURS", x.about(4), steps);
        x.sunday();
        d.due("about(4): a SUNDAY", x.about(4), ++steps);
        x.set(false, x.is(0) == 5 ? 6 : 5);
        d.due("about(4): WIND", x.about(4), ++steps);
        x.set(true, x.is(1) == 5 ? 6 : 5);
        d.due("about(4): FROST", x.about(4), ++steps);
        x.centuries(5, 40);
        d.due("about(4): CENTURIES", x.about(4), ++steps);
        x.bell(1, 1, 1);
        x.hands(1);
        x.weight(0, 2);
        x.hears(0, 1);
        x.line(0, 1);
        x.tower(0, 0);
        Due.read(x, "sunday;");
        x.by(0);
        x.image();
        d.due("about(4): nothing else is one", x.about(4), steps);
    }

    @Holds(promise = 17, says = "the latest 30 can be taken back, the latest first")
    static void thirtySteps(Due d) {
        BellTongue x = new BellTongue();
        x.hour(30);
        d.due("about(4)", x.about(4), 30);
        x.hour(1);
        d.due("about(4): the eldest is lost", x.about(4), 30);
        for (int i = 29; i >= 0; i--) {
            d.due("undo()", x.undo(), i);
            d.due("is(2)", x.is(2), i + 1);
        }
        d.due("undo()", x.undo(), -1);
        d.due("is(2)", x.is(2), 1);
        // round and round again
        for (int i = 0; i < 5; i++) {
            x.hour(20);
            x.undo();
        }
        d.due("is(2)", x.is(2), 96);
        d.due("about(4)", x.about(4), 29);
        for (int i = 28; i >= 0; i--) {
            d.due("undo()", x.undo(), i);
        }
        d.due("is(2)", x.is(2), 96 - 29);
    }

    @Holds(promise = 17, says = "(RUNG, WIND, FROST, HOUR, BOOK, X are as ahead of it).")
    static void allIsAsAheadOfIt(Due d) {
        BellTongue x = Scene.words(2);
        Scene.word(x, 0, 0, 0, 0, 0, 0);
        String[] before = new String[9];
        for (int i = 0; i < before.length; i++) {
            before[i] = Scene.state(x);
            switch (i) {
                case 0: x.ring(0); break;
                case 1: x.speak(2); break;
                case 2: x.hour(1); break;
                case 3: x.sunday(); break;
                case 4: x.set(false, x.is(0) == 5 ? 6 : 5); break;
                case 5: x.set(true, x.is(1) == 5 ? 6 : 5); break;
                case 6: x.centuries(77, 40); break;
                case 7: x.ring(0); break;
                default: x.sunday(); break;
            }
        }
        for (int i = before.length - 1; i >= 0; i--) {
            d.due("undo()", x.undo(), i);
            nothingDone(d, x, before[i]);
        }
        // RUNG itself, not how many alone
        x.bell(9, 5, 1);
        x.ring(0);
        x.sunday();
        x.ring(1);
        x.undo();
        x.undo();
        d.due("rung(0)", x.rung(0), 10);
        x.undo();
        // what is told stays
        x.ring(0);
        x.hands(3);
        x.bell(1, 1, 1);
        x.weight(0, 7);
        x.undo();
        d.due("is(3)", x.is(3), 3);
        d.due("about(0)", x.about(0), 3);
    }

    @Holds(promise = 17, says = "The latest STEP is taken back: how many can be yet.")
    static void howManyCanBeYet(Due d) {
        BellTongue x = Scene.bells(9);
        x.ring(0);
        x.sunday();
        d.due("undo()", x.undo(), 1);
        d.due("rung(-1)", x.rung(-1), 1);
        d.due("book(-1, 0)", x.book(-1, 0), 0);
        d.due("undo()", x.undo(), 0);
        d.due("rung(-1)", x.rung(-1), 0);
        // a full BOOK has its eldest again
        for (int i = 0; i < 21; i++) {
            x.ring(0);
            Scene.ringTimes(x, 0, i % 2);
            x.sunday();
        }
        d.due("book(0, 1)", x.book(0, 1), 2);
        x.undo();
        d.due("book(-1, 0)", x.book(-1, 0), 20);
        d.due("book(0, 1)", x.book(0, 1), 1);
        d.due("book(19, 1)", x.book(19, 1), 2);
    }

    @Holds(promise = 17, says = "NONE: there is none.")
    static void noStepToTakeBack(Due d) {
        BellTongue x = Scene.bells(9);
        String before = Scene.state(x);
        d.due("undo() at first", x.undo(), -1);
        x.ring(5);
        x.hour(0);
        x.set(false, 2);
        d.due("undo() behind refused calls", x.undo(), -1);
        nothingDone(d, x, before);
        x.ring(0);
        d.due("undo()", x.undo(), 0);
        d.due("undo()", x.undo(), -1);
        nothingDone(d, x, before);
    }

    // ---- promises 21, 22 ----

    @Holds(promise = 21, says = {
        "RUNG: STROKES of this Sunday (24 at most): BELL, whether it got over (HEARD).",
        "RUNG: how many (i NONE);", "the i-th: its BELL, and 10 if it was HEARD."})
    static void rungEmptyAndFull(Due d) {
        BellTongue x = Scene.bells(9, 9, 9, 9, 9, 2);
        d.due("rung(-1)", x.rung(-1), 0);
        x.ring(4);
        d.due("rung(0): it was HEARD", x.rung(0), 14);
        x.ring(0);
        d.due("rung(1): it was HEARD", x.rung(1), 10);
        x.ring(5);
        d.due("rung(2): it was not", x.rung(2), 5);
        Scene.ringTimes(x, 5, 21);
        d.due("rung(-1)", x.rung(-1), 24);
        d.due("rung(23)", x.rung(23), 5);
        x.ring(0);
        d.due("rung(-1): 24 at most", x.rung(-1), 24);
        x.set(false, 0);
        d.due("rung(23): as it was then", x.rung(23), 5);
        x.sunday();
        d.due("rung(-1): of this Sunday", x.rung(-1), 0);
    }

    @Holds(promise = 21, says = "-2 if there is none such, and for others.")
    static void noneSuchRung(Due d) {
        BellTongue x = Scene.bells(9);
        d.due("rung(0)", x.rung(0), -2);
        Scene.ringTimes(x, 0, 24);
        for (int i : new int[] {24, 25, -2, MIN, MAX}) {
            d.due("rung(" + i + ")", x.rung(i), -2);
        }
        x.sunday();
        d.due("rung(0): nothing is RUNG", x.rung(0), -2);
    }

    @Holds(promise = 22, says = "HEARD: how many (i NONE), the i-th BELL.")
    static void heardEmptyAndFull(Due d) {
        BellTongue x = Scene.bells(9, 2, 8);
        d.due("heard(-1)", x.heard(-1), 0);
        x.ring(1);
        d.due("heard(-1): RUNG, not HEARD", x.heard(-1), 0);
        x.ring(2);
        x.ring(1);
        x.ring(0);
        d.due("heard(-1)", x.heard(-1), 2);
        d.due("heard(0)", x.heard(0), 2);
        d.due("heard(1)", x.heard(1), 0);
        x.sunday();
        Scene.ringTimes(x, 2, 24);
        d.due("heard(-1)", x.heard(-1), 24);
        d.due("heard(23)", x.heard(23), 2);
    }

    @Holds(promise = 22, says = "-2 if there is none such, and for others.")
    static void noneSuchHeard(Due d) {
        BellTongue x = Scene.bells(9, 1);
        d.due("heard(0)", x.heard(0), -2);
        x.ring(1);
        d.due("heard(0): not HEARD", x.heard(0), -2);
        x.ring(0);
        for (int i : new int[] {1, 2, 24, -2, MIN, MAX}) {
            d.due("heard(" + i + ")", x.heard(i), -2);
        }
    }

    // ---- promise 23 ----

    @Holds(promise = 23, says = {
        "BOOK (the latest 20 Sundays): HOUR, how many were RUNG, HEARD, READINGS with sense.",
        "BOOK: how many (i NONE);",
        "the i-th, from the eldest on: 0 HOUR, 1 RUNG, 2 HEARD, 3 READINGS with sense."})
    static void bookEmptyAndFull(Due d) {
        BellTongue x = Scene.bells(9, 2);
        Scene.word(x, 0, 0, 0);
        Scene.word(x, 0, 0, 0);
        d.due("book(-1, 0)", x.book(-1, 0), 0);
        d.due("book(-1, 9): how many, whatever is asked", x.book(-1, 9), 0);
        d.rule(x, "begins means=0;over bell=0;");
        for (int i = 0; i < 21; i++) {
            x.hour(1);
            Scene.ringTimes(x, 0, i % 3);
            x.ring(1);
            x.sunday();
            d.due("book(-1, 0)", x.book(-1, 0), Math.min(20, i + 1));
        }
        for (int i = 0; i < 20; i++) {
            int heard = (i + 1) % 3;
            d.due("book(" + i + ", 0)", x.book(i, 0), i + 2);
            d.due("book(" + i + ", 1)", x.book(i, 1), heard + 1);
            d.due("book(" + i + ", 2)", x.book(i, 2), heard);
            d.due("book(" + i + ", 3)", x.book(i, 3), 1 << heard);
        }
    }

    @Holds(promise = 23, says = "-2 if there is none such, and for others.")
    static void noneSuchSunday(Due d) {
        BellTongue x = new BellTongue();
        d.due("book(0, 0)", x.book(0, 0), -2);
        x.sunday();
        int[][] others = {{1, 0}, {20, 0}, {0, 4}, {0, -1}, {0, MIN}, {0, MAX}, {-2, 0}, {MIN, 0},
            {MAX, 3}};
        for (int[] o : others) {
            d.due("book(" + o[0] + ", " + o[1] + ")", x.book(o[0], o[1]), -2);
        }
        for (int i = 0; i < 25; i++) {
            x.sunday();
        }
        d.due("book(20, 0)", x.book(20, 0), -2);
        d.due("book(19, 0)", x.book(19, 0), 0);
    }
}
