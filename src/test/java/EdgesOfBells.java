/** Edges of promises 1 to 4, 18 to 20, 40 to 42, 44, 47: what is told of BELLS and WORDS. */
final class EdgesOfBells {
    private static final int MIN = Integer.MIN_VALUE;
    private static final int MAX = Integer.MAX_VALUE;

    private EdgesOfBells() {
    }

    // ---- promise 1 ----

    @Holds(promise = 1, says = "No BELLS;")
    static void newWithoutBells(Due d) {
        BellTongue x = new BellTongue();
        d.due("about(0)", x.about(0), 0);
        d.due("ofBell(0, 0)", x.ofBell(0, 0), -1);
        d.due("ring(0)", x.ring(0), -1);
        d.due("ropes()", x.ropes(), 0);
        d.due("bell(1, 1, 1)", x.bell(1, 1, 1), 0);
    }

    @Holds(promise = 1, says = "THE IMAGE is this.")
    static void newIsTheImage(Due d) {
        BellTongue x = Scene.words(3);
        String empty = Scene.state(new BellTongue());
        x.hands(3);
        x.ring(0);
        x.sunday();
        x.hour(7);
        Due.read(x, "over 1=0;");
        x.by(0);
        x.line(0, 1);
        x.tower(0, 0);
        d.due("back()", x.back(), 0);
        d.due("all is as in a new object", Scene.state(x).equals(empty), true);
        d.due("lies(false)", x.lies(false), -1);
        d.due("undo()", x.undo(), -1);
        d.due("played(0)", x.played(0), -2);
    }

    @Holds(promise = 1, says = "The constants: `NONE = -1`: None.")
    static void theConstant(Due d) {
        d.due("NONE", BellTongue.NONE, -1);
    }

    // ---- promise 2 ----

    @Holds(promise = 2, says = {"BELLS 0 .. 5 (told one by one):", "A BELL: its number."})
    static void bellsAreNumberedOneByOne(Due d) {
        BellTongue x = new BellTongue();
        for (int i = 0; i < 6; i++) {
            d.due("bell(1, 0, 1)", x.bell(1, 0, 1), i);
            d.due("about(0)", x.about(0), i + 1);
        }
    }

    @Holds(promise = 2, says = "LOUD 1 .. 9, PITCH 0 .. 9, MEN 1 .. 9.")
    static void bellsAtTheirEdges(Due d) {
        BellTongue x = new BellTongue();
        d.due("bell(1, 0, 1)", x.bell(1, 0, 1), 0);
        d.due("bell(9, 9, 9)", x.bell(9, 9, 9), 1);
        int[] least = {1, 0, 1};
        for (int i = 0; i < 3; i++) {
            d.due("ofBell(0, " + i + ")", x.ofBell(0, i), least[i]);
            d.due("ofBell(1, " + i + ")", x.ofBell(1, i), 9);
        }
    }

    @Holds(promise = 2, says = "NONE for others,")
    static void noSuchBell(Due d) {
        int[][] others = {{0, 5, 5}, {10, 5, 5}, {5, -1, 5}, {5, 10, 5}, {5, 5, 0}, {5, 5, 10},
            {-1, 5, 5}, {5, 5, -1}, {MIN, 5, 5}, {MAX, 5, 5}, {5, MIN, 5}, {5, MAX, 5},
            {5, 5, MIN}, {5, 5, MAX}};
        BellTongue x = new BellTongue();
        for (int[] o : others) {
            d.due("bell(" + o[0] + ", " + o[1] + ", " + o[2] + ")", x.bell(o[0], o[1], o[2]), -1);
        }
        d.due("about(0)", x.about(0), 0);
        d.due("bell(5, 5, 5)", x.bell(5, 5, 5), 0);
    }

    @Holds(promise = 2, says = "or if there are 6.")
    static void sixBellsAreAll(Due d) {
        BellTongue x = Scene.bells(1, 2, 3, 4, 5, 6);
        d.due("bell(9, 9, 9)", x.bell(9, 9, 9), -1);
        d.due("about(0)", x.about(0), 6);
        d.due("ofBell(5, 0)", x.ofBell(5, 0), 6);
        d.due("ofBell(6, 0)", x.ofBell(6, 0), -1);
    }

    // ---- promise 3 ----

    @Holds(promise = 3, says = {"WORDS 0 .. 9 (told one by one):"})
    static void wordsAreNumberedOneByOne(Due d) {
        BellTongue x = Scene.bells(9);
        for (int i = 0; i < 10; i++) {
            d.due("word(0, ..)", Scene.word(x, 0, 0, 0), i);
            d.due("about(1)", x.about(1), i + 1);
        }
    }

    @Holds(promise = 3, says = "1 .. 4 STROKES (BELLS), a KIND 0 .. 3, what it MEANS 0 .. 99.")
    static void wordsAtTheirEdges(Due d) {
        BellTongue x = Scene.bells(9, 9, 9, 9, 9, 9);
        d.due("word(0, -1, -1, -1, 0, 0)", x.word(0, -1, -1, -1, 0, 0), 0);
        d.due("word(5, 5, 5, 5, 3, 99)", x.word(5, 5, 5, 5, 3, 99), 1);
        d.due("ofWord(0, 2)", x.ofWord(0, 2), 1);
        d.due("ofWord(1, 2)", x.ofWord(1, 2), 4);
        d.due("ofWord(1, 0)", x.ofWord(1, 0), 3);
        d.due("ofWord(1, 1)", x.ofWord(1, 1), 99);
    }

    @Holds(promise = 3, says = "A WORD of 1 to 4 STROKES (NONE: no more): its number.")
    static void wordsOfEachLength(Due d) {
        BellTongue x = Scene.bells(9);
        d.due("word(0, -1, -1, -1, ..)", x.word(0, -1, -1, -1, 0, 0), 0);
        d.due("word(0, 0, -1, -1, ..)", x.word(0, 0, -1, -1, 0, 0), 1);
        d.due("word(0, 0, 0, -1, ..)", x.word(0, 0, 0, -1, 0, 0), 2);
        d.due("word(0, 0, 0, 0, ..)", x.word(0, 0, 0, 0, 0, 0), 3);
        for (int w = 0; w < 4; w++) {
            d.due("ofWord(" + w + ", 2)", x.ofWord(w, 2), w + 1);
        }
        d.due("word(-1, -1, -1, -1, ..): without STROKES", x.word(-1, -1, -1, -1, 0, 0), -1);
    }

    @Holds(promise = 3, says = "NONE for others (BELLS not told, a STROKE behind NONE),")
    static void noSuchWord(Due d) {
        BellTongue x = Scene.bells(9, 9);
        int[][] others = {{2, -1, -1, -1, 0, 0}, {0, 2, -1, -1, 0, 0}, {0, 0, 2, -1, 0, 0},
            {0, 0, 0, 2, 0, 0}, {-2, -1, -1, -1, 0, 0}, {0, -2, -1, -1, 0, 0},
            {0, 0, 0, -2, 0, 0}, {MIN, -1, -1, -1, 0, 0}, {0, MAX, -1, -1, 0, 0},
            {0, 0, MIN, -1, 0, 0}, {0, 0, 0, MAX, 0, 0},
            {-1, 0, -1, -1, 0, 0}, {-1, -1, -1, 0, 0, 0}, {0, -1, 0, -1, 0, 0},
            {0, -1, -1, 0, 0, 0}, {0, 0, -1, 0, 0, 0}, {0, -1, 0, 0, 0, 0}, {-1, 0, 0, 0, 0, 0},
            {0, -1, -1, -1, -1, 0}, {0, -1, -1, -1, 4, 0}, {0, -1, -1, -1, 0, -1},
            {0, -1, -1, -1, 0, 100}, {0, -1, -1, -1, MIN, 0}, {0, -1, -1, -1, 0, MAX}};
        for (int[] o : others) {
            d.due("word(" + o[0] + ", " + o[1] + ", " + o[2] + ", " + o[3] + ", " + o[4] + ", "
                    + o[5] + ")", x.word(o[0], o[1], o[2], o[3], o[4], o[5]), -1);
        }
        d.due("about(1)", x.about(1), 0);
        d.due("a refused one leaves nothing", x.word(1, -1, -1, -1, 0, 0), 0);
        d.due("ofWord(0, 2)", x.ofWord(0, 2), 1);
        d.due("ofWord(0, 5)", x.ofWord(0, 5), -1);
    }

    @Holds(promise = 3, says = "or if there are 10.")
    static void tenWordsAreAll(Due d) {
        BellTongue x = Scene.words(10);
        d.due("word(0, ..)", Scene.word(x, 3, 77, 0, 0), -1);
        d.due("about(1)", x.about(1), 10);
        d.due("ofWord(9, 1)", x.ofWord(9, 1), 9);
        d.due("ofWord(10, 1)", x.ofWord(10, 1), -2);
    }

    // ---- promise 4 ----

    @Holds(promise = 4, says = {"HANDS 0 .. 99 (told; at first 9).", "HANDS: true."})
    static void handsAtTheirEdges(Due d) {
        BellTongue x = new BellTongue();
        d.due("is(3) at first", x.is(3), 9);
        d.due("hands(0)", x.hands(0), true);
        d.due("is(3)", x.is(3), 0);
        d.due("hands(99)", x.hands(99), true);
        d.due("is(3)", x.is(3), 99);
        d.due("hands(99), as it is", x.hands(99), true);
        d.due("about(4): no STEP", x.about(4), 0);
    }

    @Holds(promise = 4, says = "False for others.")
    static void noSuchHands(Due d) {
        BellTongue x = new BellTongue();
        x.hands(44);
        for (int men : new int[] {-1, 100, MIN, MAX}) {
            d.due("hands(" + men + ")", x.hands(men), false);
            d.due("is(3)", x.is(3), 44);
        }
    }

    // ---- promise 18 ----

    @Holds(promise = 18, says = "Of a BELL: 0 LOUD, 1 PITCH, 2 MEN,")
    static void ofTheLastBell(Due d) {
        BellTongue x = Scene.bells(1, 1, 1, 1, 1);
        x.bell(7, 8, 9);
        d.due("ofBell(5, 0)", x.ofBell(5, 0), 7);
        d.due("ofBell(5, 1)", x.ofBell(5, 1), 8);
        d.due("ofBell(5, 2)", x.ofBell(5, 2), 9);
    }

    @Holds(promise = 18, says = "3 whether a STROKE of it would be HEARD now (1, 0).")
    static void wouldBeHeard(Due d) {
        BellTongue x = Scene.bells(2, 3);
        d.due("ofBell(0, 3): LOUD is WIND", x.ofBell(0, 3), 0);
        d.due("ofBell(1, 3): one more", x.ofBell(1, 3), 1);
        d.due("nothing is done", x.rung(-1) + x.about(4), 0);
        d.rule(x, "over strokes=1;");
        d.due("ofBell(1, 3): as the first", x.ofBell(1, 3), 0);
        x.ring(0);
        d.due("ofBell(1, 3): as the second", x.ofBell(1, 3), 1);
        d.rule(x, "over strokes=24;");
        Scene.ringTimes(x, 0, 23);
        d.due("ofBell(1, 3): over alone is asked, RUNG is full", x.ofBell(1, 3), 1);
        x.hands(0);
        d.due("ofBell(1, 3): over alone is asked, without HANDS", x.ofBell(1, 3), 1);
    }

    @Holds(promise = 18, says = "NONE for others.")
    static void ofNoBell(Due d) {
        BellTongue x = Scene.bells(5, 5);
        int[][] others = {{2, 0}, {2, 3}, {-1, 0}, {-1, 3}, {6, 3}, {0, 4}, {0, -1}, {1, MIN},
            {1, MAX}, {MIN, 0}, {MAX, 3}};
        for (int[] o : others) {
            d.due("ofBell(" + o[0] + ", " + o[1] + ")", x.ofBell(o[0], o[1]), -1);
        }
    }

    // ---- promise 19 ----

    @Holds(promise = 19, says = {
        "Of a WORD: 0 KIND, 1 what it MEANS, 2 how many STROKES, 3 HANDS needed,",
        "HANDS needed for a WORD: the greatest of its BELLS' MEN."})
    static void ofWordsAtTheirEdges(Due d) {
        BellTongue x = new BellTongue();
        x.bell(1, 1, 1);
        x.bell(1, 1, 9);
        x.bell(1, 1, 4);
        Scene.word(x, 3, 99, 1, 0, 0, 0);
        Scene.word(x, 0, 0, 0, 0, 0, 1);
        Scene.word(x, 1, 2, 0);
        Scene.word(x, 1, 2, 0, 2, 0);
        int[][] want = {{3, 99, 4, 9}, {0, 0, 4, 9}, {1, 2, 1, 1}, {1, 2, 3, 4}};
        for (int i = 0; i < 16; i++) {
            d.due("ofWord(" + i / 4 + ", " + i % 4 + ")", x.ofWord(i / 4, i % 4), want[i / 4][i % 4]);
        }
        Scene.word(x, 1, 2, 0, 0, 0, 0);
        Scene.word(x, 1, 2, 1);
        d.due("ofWord(4, 3): of its own BELLS alone", x.ofWord(4, 3), 1);
        x.hands(0);
        d.due("ofWord(0, 3): whatever HANDS are", x.ofWord(0, 3), 9);
    }

    @Holds(promise = 19, says = "4 + i its i-th STROKE (NONE: it has none).")
    static void strokesOfWords(Due d) {
        BellTongue x = Scene.bells(9, 9, 9, 9, 9, 9);
        Scene.word(x, 0, 0, 5);
        Scene.word(x, 0, 0, 2, 3, 4, 5);
        int[] one = {5, -1, -1, -1};
        for (int i = 0; i < 4; i++) {
            d.due("ofWord(0, " + (4 + i) + ")", x.ofWord(0, 4 + i), one[i]);
            d.due("ofWord(1, " + (4 + i) + ")", x.ofWord(1, 4 + i), 2 + i);
        }
    }

    @Holds(promise = 19, says = "-2 for others (0 .. 7).")
    static void ofNoWord(Due d) {
        BellTongue x = Scene.words(2);
        int[][] others = {{0, 8}, {1, -1}, {1, MIN}, {1, MAX}, {2, 0}, {2, 4}, {2, 7}, {-1, 0},
            {-1, 4}, {10, 3}, {MIN, 3}, {MAX, 4}};
        for (int[] o : others) {
            d.due("ofWord(" + o[0] + ", " + o[1] + ")", x.ofWord(o[0], o[1]), -2);
        }
    }

    // ---- promise 20 ----

    @Holds(promise = 20, says = {"0 WIND, 1 FROST, 2 HOUR, 3 HANDS, 4 X.", "X: at first 101."})
    static void isAtFirst(Due d) {
        BellTongue x = new BellTongue();
        int[] want = {2, 0, 0, 9, 101};
        for (int i = 0; i < 5; i++) {
            d.due("is(" + i + ")", x.is(i), want[i]);
        }
        x.set(false, 9);
        x.set(true, 9);
        x.hands(99);
        d.due("is(0)", x.is(0), 9);
        d.due("is(1)", x.is(1), 9);
        d.due("is(3)", x.is(3), 99);
        d.due("is(4): nothing was drawn", x.is(4), 101);
        x.hour(1);
        d.due("is(2)", x.is(2), 1);
    }

    @Holds(promise = 20, says = "-2 for others.")
    static void isNothing(Due d) {
        BellTongue x = new BellTongue();
        for (int what : new int[] {-1, 5, -2, 6, MIN, MAX}) {
            d.due("is(" + what + ")", x.is(what), -2);
        }
    }

    // ---- promises 40, 41 ----

    @Holds(promise = 40, says = {"A NEW BELL: the lowest PITCH (0 .. 9) that is d (1 .. 9) away"
        + " from all BELLS' PITCHES at least;", "A NEW BELL: its PITCH."})
    static void newBellAtTheEdges(Due d) {
        BellTongue x = new BellTongue();
        d.due("newBell(1) without BELLS", x.newBell(1), 0);
        d.due("newBell(9) without BELLS", x.newBell(9), 0);
        x.bell(1, 0, 1);
        for (int far = 1; far <= 9; far++) {
            d.due("newBell(" + far + ") beside 0", x.newBell(far), far);
        }
        BellTongue y = new BellTongue();
        y.bell(1, 9, 1);
        d.due("newBell(9) beside 9", y.newBell(9), 0);
        d.due("newBell(1) beside 9", y.newBell(1), 0);
        y.bell(1, 0, 1);
        d.due("newBell(4) between 0 and 9", y.newBell(4), 4);
    }

    @Holds(promise = 40, says = {"none;", "NONE: none,"})
    static void noNewBell(Due d) {
        BellTongue x = new BellTongue();
        x.bell(1, 4, 1);
        d.due("newBell(5)", x.newBell(5), 9);
        d.due("newBell(6)", x.newBell(6), -1);
        for (int pitch : new int[] {0, 2, 6, 8}) {
            x.bell(1, pitch, 1);
        }
        d.due("newBell(1)", x.newBell(1), 1);
        d.due("newBell(2)", x.newBell(2), -1);
        d.due("about(0): none is told", x.about(0), 5);
    }

    @Holds(promise = 40, says = "and for others.")
    static void newBellOfOthers(Due d) {
        BellTongue x = new BellTongue();
        for (int far : new int[] {0, 10, -1, MIN, MAX}) {
            d.due("newBell(" + far + ")", x.newBell(far), -1);
        }
        x.bell(1, 5, 1);
        d.due("newBell(0) beside 5", x.newBell(0), -1);
    }

    @Holds(promise = 41, says = {"how far away the best one is;",
        "A NEW BELL: how far away the best PITCH is"})
    static void theFarthestPitch(Due d) {
        int[] want = {9, 8, 7, 6, 5, 5, 6, 7, 8, 9};
        for (int pitch = 0; pitch < 10; pitch++) {
            BellTongue x = new BellTongue();
            x.bell(1, pitch, 1);
            d.due("farthest() beside " + pitch, x.farthest(), want[pitch]);
        }
        BellTongue y = new BellTongue();
        for (int pitch : new int[] {0, 2, 4, 6, 8, 9}) {
            y.bell(1, pitch, 1);
        }
        d.due("farthest() beside six", y.farthest(), 1);
    }

    @Holds(promise = 41, says = "(without BELLS 10).")
    static void farthestWithoutBells(Due d) {
        BellTongue x = new BellTongue();
        d.due("farthest()", x.farthest(), 10);
        x.bell(0, 0, 0);
        d.due("farthest() behind a BELL that can't be", x.farthest(), 10);
    }

    // ---- promise 42 ----

    @Holds(promise = 42, says = {"ROPES: BELLS (bits) that may be rung by HANDS.", "ROPES (bits)."})
    static void ropesByHands(Due d) {
        BellTongue x = new BellTongue();
        d.due("ropes() without BELLS", x.ropes(), 0);
        for (int men : new int[] {1, 3, 5, 7, 8, 9}) {
            x.bell(1, 0, men);
        }
        int[] want = {0, 1, 1, 3, 3, 7, 7, 15, 31, 63, 63};
        for (int hands = 0; hands <= 10; hands++) {
            x.hands(hands);
            d.due("ropes() by " + hands, x.ropes(), want[hands]);
        }
        Scene.ringTimes(x, 0, 24);
        d.due("ropes(): by HANDS, RUNG is full", x.ropes(), 63);
    }

    // ---- promise 44 ----

    @Holds(promise = 44, says = {"TAKES: STROKES of all WORDS (of a set, bits) together.", "TAKES."})
    static void takesOfSets(Due d) {
        BellTongue x = Scene.bells(9);
        d.due("takes(0) without WORDS", x.takes(0), 0);
        for (int i = 0; i < 10; i++) {
            Scene.word(x, 0, 0, new int[1 + i % 4]);
        }
        d.due("takes(0)", x.takes(0), 0);
        d.due("takes(1)", x.takes(1), 1);
        d.due("takes(512)", x.takes(512), 2);
        d.due("takes(1023)", x.takes(1023), 23);
        d.due("takes(8)", x.takes(8), 4);
    }

    @Holds(promise = 44, says = "NONE for others (WORDS not told).")
    static void takesOfOthers(Due d) {
        BellTongue x = new BellTongue();
        d.due("takes(1) without WORDS", x.takes(1), -1);
        x = Scene.words(3);
        for (int words : new int[] {8, 9, 15, 1 << 10, 1 << 30, -1, -8, MIN, MAX}) {
            d.due("takes(" + words + ")", x.takes(words), -1);
        }
        x = Scene.words(10);
        d.due("takes(1024)", x.takes(1024), -1);
    }

    // ---- promise 47 ----

    @Holds(promise = 47, says = "0 BELLS, 1 WORDS, 2 TEXTS, 3 THE TEXT (NONE), "
        + "4 STEPS that can be taken back, 5 LINES, 6 bytes of the tape.")
    static void aboutEmptyAndFull(Due d) {
        BellTongue x = new BellTongue();
        for (int i = 0; i < 7; i++) {
            d.due("about(" + i + ") at first", x.about(i), i == 3 ? -1 : 0);
        }
        for (int i = 0; i < 6; i++) {
            x.bell(9, i, 1);
        }
        for (int i = 0; i < 10; i++) {
            Scene.word(x, 0, i, 0);
        }
        for (int i = 0; i < 4; i++) {
            Due.read(x, "sunday;");
        }
        x.by(3);
        x.hour(31);
        for (int i = 0; i < 9; i++) {
            x.line(0, 0);
        }
        for (int i = 0; i < 16; i++) {
            x.feed(0, 0, 0, 0, 0);
        }
        int[] want = {6, 10, 4, 3, 30, 8, 300};
        for (int i = 0; i < 7; i++) {
            d.due("about(" + i + ") of all that there may be", x.about(i), want[i]);
        }
    }

    @Holds(promise = 47, says = "-2 for others.")
    static void aboutNothing(Due d) {
        BellTongue x = new BellTongue();
        for (int what : new int[] {-1, 7, -2, 8, MIN, MAX}) {
            d.due("about(" + what + ")", x.about(what), -2);
        }
    }
}
