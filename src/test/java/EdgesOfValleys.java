/** Edges of promises 28 to 31, 33 to 39: WORDS that get over, and two valleys. */
final class EdgesOfValleys {
    private static final int MIN = Integer.MIN_VALUE;
    private static final int MAX = Integer.MAX_VALUE;

    private EdgesOfValleys() {
    }

    // ---- promise 28 ----

    @Holds(promise = 28, says = {"SHORTEST: a WORD that means a thing, "
        + "all of whose STROKES get over now", "SHORTEST."})
    static void shortestThatGetsOver(Due d) {
        BellTongue x = Scene.bells(9, 2);
        Scene.word(x, 0, 0, 1);
        Scene.word(x, 0, 0, 0, 1);
        Scene.word(x, 0, 0, 0, 0, 0, 1);
        Scene.word(x, 0, 0, 0, 0, 0, 0);
        Scene.word(x, 0, 99, 0);
        d.due("shortest(0): all of its STROKES", x.shortest(0), 3);
        d.due("shortest(99)", x.shortest(99), 4);
        x.set(false, 1);
        d.due("shortest(0) by less WIND", x.shortest(0), 0);
    }

    @Holds(promise = 28, says = "(over of each as if it came, the ones ahead RUNG as well; "
        + "RUNG's room and HANDS aside),")
    static void shortestAsIfItCame(Due d) {
        BellTongue x = Scene.bells(9);
        Scene.word(x, 0, 5, 0, 0, 0, 0);
        d.rule(x, "over strokes<4;");
        d.due("shortest(5): the fourth has three ahead", x.shortest(5), 0);
        x.ring(0);
        d.due("shortest(5): and one more", x.shortest(5), -1);
        x.undo();
        d.rule(x, "over strokes#0;");
        d.due("shortest(5): the first has none ahead", x.shortest(5), -1);
        x.by(-1);
        x.hands(0);
        d.due("shortest(5) without HANDS", x.shortest(5), 0);
        x.hands(9);
        Scene.ringTimes(x, 0, 24);
        d.due("shortest(5): RUNG is full", x.shortest(5), 0);
        d.rule(x, "over strokes>=24 and strokes<=27;");
        d.due("shortest(5): as the 25th to the 28th", x.shortest(5), 0);
        d.due("rung(-1)", x.rung(-1), 24);
    }

    @Holds(promise = 28, says = {"with the fewest STROKES; of like ones the lowest;"})
    static void fewestStrokesAndLowest(Due d) {
        BellTongue x = Scene.bells(9);
        for (int size : new int[] {4, 3, 3, 2, 2, 1, 1}) {
            Scene.word(x, 0, 7, new int[size]);
            d.due("shortest(7)", x.shortest(7), size == 4 ? 0 : size == 3 ? 1 : size == 2 ? 3 : 5);
        }
    }

    @Holds(promise = 28, says = {"none.", "NONE: none, and for others."})
    static void noShortest(Due d) {
        BellTongue x = Scene.bells(9, 2);
        d.due("shortest(0) without WORDS", x.shortest(0), -1);
        Scene.word(x, 0, 0, 1);
        d.due("shortest(0): none gets over", x.shortest(0), -1);
        Scene.word(x, 0, 0, 0);
        d.due("shortest(0)", x.shortest(0), 1);
        for (int means : new int[] {1, 99, -1, 100, MIN, MAX}) {
            d.due("shortest(" + means + ")", x.shortest(means), -1);
        }
    }

    // ---- promise 29 ----

    @Holds(promise = 29, says = {"AT WORST: the greatest WIND (0 .. 9) by which, FROST as now, "
        + "all STROKES of a WORD get over, and by each less WIND, too;", "AT WORST."})
    static void atWorstAtItsEdges(Due d) {
        BellTongue x = Scene.bells(1, 9);
        Scene.word(x, 0, 0, 0);
        Scene.word(x, 0, 0, 1);
        Scene.word(x, 0, 0, 1, 1, 1, 0);
        d.due("atWorst(0)", x.atWorst(0), 0);
        d.due("atWorst(1)", x.atWorst(1), 8);
        d.due("atWorst(2): all STROKES", x.atWorst(2), 0);
        x.set(true, 1);
        d.due("atWorst(1) by FROST 1", x.atWorst(1), 9);
        x.set(true, 9);
        d.due("atWorst(0) by FROST 9", x.atWorst(0), 9);
        d.rule(x, "over wind#3;");
        d.due("atWorst(0): by each less, too", x.atWorst(0), 2);
        d.rule(x, "over wind#9;");
        d.due("atWorst(0)", x.atWorst(0), 8);
        d.rule(x, "over 1=1;");
        d.due("atWorst(0): 9 is the greatest", x.atWorst(0), 9);
        d.rule(x, "over wind+strokes<6;");
        x.hands(0);
        d.due("atWorst(2): the ones ahead RUNG as well", x.atWorst(2), 2);
        x.hands(9);
        Scene.ring(x, 0, 0);
        d.due("atWorst(2): behind two", x.atWorst(2), 0);
        d.due("is(0): WIND stays", x.is(0), 2);
    }

    @Holds(promise = 29, says = {"none.", "NONE: none, and for others."})
    static void noneAtWorst(Due d) {
        BellTongue x = Scene.bells(9);
        d.due("atWorst(0) without WORDS", x.atWorst(0), -1);
        Scene.word(x, 0, 0, 0);
        for (int word : new int[] {1, 9, 10, -1, MIN, MAX}) {
            d.due("atWorst(" + word + ")", x.atWorst(word), -1);
        }
        d.rule(x, "over wind>0;");
        d.due("atWorst(0): not by 0", x.atWorst(0), -1);
        d.rule(x, "over 1=0;");
        d.due("atWorst(0): never", x.atWorst(0), -1);
    }

    // ---- promise 30 ----

    @Holds(promise = 30, says = {"AWAY: how many STROKES must be changed, put in or left out "
        + "(one each) to make one WORD of another one: the fewest.", "AWAY."})
    static void awayAtItsEdges(Due d) {
        int[][] rows = {{0}, {0}, {1}, {0, 0, 0, 0}, {1, 1, 1, 1}, {0, 1, 2, 3}, {1, 2, 3, 4},
            {3, 2, 1, 0}, {0, 1, 0, 1}, {1, 0, 1, 0}};
        BellTongue x = Scene.bells(9, 9, 9, 9, 9);
        for (int[] row : rows) {
            Scene.word(x, 0, 0, row);
        }
        int[][] want = {{0, 0, 0}, {0, 1, 0}, {0, 2, 1}, {0, 3, 3}, {0, 4, 4}, {3, 4, 4}, {3, 3, 0},
            {5, 6, 2}, {5, 7, 4}, {8, 9, 2}, {2, 5, 3}, {3, 8, 2}, {6, 7, 3}};
        for (int[] w : want) {
            d.due("away(" + w[0] + ", " + w[1] + ")", x.away(w[0], w[1]), w[2]);
            d.due("away(" + w[1] + ", " + w[0] + ")", x.away(w[1], w[0]), w[2]);
        }
    }

    @Holds(promise = 30, says = "NONE for others.")
    static void awayFromOthers(Due d) {
        BellTongue x = Scene.bells(9);
        d.due("away(0, 0) without WORDS", x.away(0, 0), -1);
        Scene.word(x, 0, 0, 0);
        d.due("away(0, 0)", x.away(0, 0), 0);
        for (int other : new int[] {1, 9, 10, -1, MIN, MAX}) {
            d.due("away(0, " + other + ")", x.away(0, other), -1);
            d.due("away(" + other + ", 0)", x.away(other, 0), -1);
        }
    }

    // ---- promise 31 ----

    @Holds(promise = 31, says = {"TOLD APART: the greatest set (bits) of WORDS, any two of which are "
        + "d (1 .. 4) AWAY at least; of like ones the lowest.", "TOLD APART (bits)."})
    static void apartAtItsEdges(Due d) {
        BellTongue x = Scene.bells(9, 9, 9, 9);
        for (int far = 1; far <= 4; far++) {
            d.due("apart(" + far + ") without WORDS", x.apart(far), 0);
        }
        Scene.word(x, 0, 0, 3);
        for (int far = 1; far <= 4; far++) {
            d.due("apart(" + far + ") of one WORD", x.apart(far), 1);
        }
        Scene.word(x, 0, 0, 3);
        d.due("apart(1) of two alike: the lowest", x.apart(1), 1);
        Scene.word(x, 0, 0, 0, 0, 0, 0);
        Scene.word(x, 0, 0, 1, 1, 1, 1);
        Scene.word(x, 0, 0, 0, 0, 0, 1);
        // 3 and the others: 4 each; 0000 1111: 4; 0001: 1 and 3
        d.due("apart(1)", x.apart(1), 0b11101);
        d.due("apart(2)", x.apart(2), 0b01101);
        d.due("apart(3)", x.apart(3), 0b01101);
        d.due("apart(4)", x.apart(4), 0b01101);
        d.due("apart(1), asked again", x.apart(1), 0b11101);
        BellTongue y = Scene.words(10);
        d.due("apart(1) of ten alike", y.apart(1), 1);
        BellTongue pairs = Scene.bells(9, 9, 9, 9, 9);
        for (int i = 0; i < 10; i++) {
            Scene.word(pairs, 0, 0, i % 5, i % 5, i % 5, i % 5);
        }
        d.due("apart(4) of five twice", pairs.apart(4), 31);
        BellTongue z = Scene.bells(9, 9, 9, 9, 9, 9);
        for (int i = 0; i < 10; i++) {
            Scene.word(z, 0, 0, i % 5, i / 5, i % 5, i / 5);
        }
        d.due("apart(1) of ten unlike", z.apart(1), 1023);
    }

    @Holds(promise = 31, says = "NONE for others.")
    static void apartByOthers(Due d) {
        BellTongue x = Scene.words(2);
        for (int far : new int[] {0, 5, -1, MIN, MAX}) {
            d.due("apart(" + far + ")", x.apart(far), -1);
        }
    }

    // ---- promises 33, 34 ----

    @Holds(promise = 33, says = "One WORD is heard as another one: true.")
    static void heardAs(Due d) {
        BellTongue x = Scene.words(10);
        d.due("hears(0, 9)", x.hears(0, 9), true);
        d.due("settles(0, 2)", x.settles(0, 2), 9);
        d.due("hears(9, 0)", x.hears(9, 0), true);
        d.due("settles(0, 1)", x.settles(0, 1), 2);
        d.due("hears(0, 0): as itself again", x.hears(0, 0), true);
        d.due("settles(0, 1)", x.settles(0, 1), 1);
        d.due("about(4): no STEP", x.about(4), 0);
    }

    @Holds(promise = 33, says = "False for others.")
    static void heardAsNone(Due d) {
        BellTongue x = new BellTongue();
        d.due("hears(0, 0) without WORDS", x.hears(0, 0), false);
        x = Scene.words(2);
        for (int other : new int[] {2, 9, 10, -1, MIN, MAX}) {
            d.due("hears(0, " + other + ")", x.hears(0, other), false);
            d.due("hears(" + other + ", 0)", x.hears(other, 0), false);
        }
        d.due("settles(0, 0): as before", x.settles(0, 0), 1);
        Scene.word(x, 0, 0, 0);
        d.due("settles(2, 2): a new one hears itself", x.settles(2, 2), 2);
    }

    @Holds(promise = 34, says = {"SETTLES: a WORD heard over there as the WORD told for it "
        + "(told; at first itself), answered by it, heard here likewise, ..:",
        "how many times till one comes that was there before (it itself being the first),"})
    static void howManyTimes(Due d) {
        BellTongue x = Scene.words(10);
        d.due("settles(0, 0) at first", x.settles(0, 0), 1);
        for (int w = 0; w < 9; w++) {
            x.hears(w, w + 1);
        }
        for (int w = 0; w < 10; w++) {
            d.due("settles(" + w + ", 0): to the end", x.settles(w, 0), 10 - w);
        }
        x.hears(9, 0);
        d.due("settles(5, 0): all round", x.settles(5, 0), 10);
        x.hears(9, 8);
        d.due("settles(0, 0): back by one", x.settles(0, 0), 10);
        d.due("settles(8, 0)", x.settles(8, 0), 2);
    }

    @Holds(promise = 34, says = {"of how many the round is, the lowest WORD of the round.",
        "SETTLES: how many times (what 0), the round's length (1), its lowest WORD (2)."})
    static void theRound(Due d) {
        BellTongue x = Scene.words(10);
        for (int w = 0; w < 9; w++) {
            x.hears(w, w + 1);
        }
        d.due("settles(0, 1)", x.settles(0, 1), 1);
        d.due("settles(0, 2)", x.settles(0, 2), 9);
        for (int to = 0; to < 10; to++) {
            x.hears(9, to);
            d.due("settles(0, 1): 9 as " + to, x.settles(0, 1), 10 - to);
            d.due("settles(0, 2): 9 as " + to, x.settles(0, 2), to);
            d.due("settles(9, 0): 9 as " + to, x.settles(9, 0), 10 - to);
        }
        x.hears(9, 3);
        x.hears(3, 9);
        d.due("settles(0, 0)", x.settles(0, 0), 5);
        d.due("settles(0, 1)", x.settles(0, 1), 2);
        d.due("settles(5, 2): the lowest is not come to first", x.settles(5, 2), 3);
    }

    @Holds(promise = 34, says = "NONE for others.")
    static void settlesOfOthers(Due d) {
        BellTongue x = Scene.bells(9);
        d.due("settles(0, 0) without WORDS", x.settles(0, 0), -1);
        Scene.word(x, 0, 0, 0);
        int[][] others = {{0, 3}, {0, -1}, {0, MIN}, {0, MAX}, {1, 0}, {1, 2}, {10, 1}, {-1, 0},
            {-1, 1}, {MIN, 2}, {MAX, 0}};
        for (int[] o : others) {
            d.due("settles(" + o[0] + ", " + o[1] + ")", x.settles(o[0], o[1]), -1);
        }
    }

    // ---- promises 35 to 37 ----

    @Holds(promise = 35, says = {"WHOSE GRAMMAR: LINES (8 at most; told): one WORD behind another one:",
        "A LINE: how many there are (one NONE: none any more)."})
    static void linesAtTheirEdges(Due d) {
        BellTongue x = Scene.words(2);
        d.due("line(-1, 0): there are none", x.line(-1, 0), 0);
        for (int i = 1; i <= 8; i++) {
            d.due("line(0, 1)", x.line(0, 1), i);
        }
        d.due("line(-1, 0)", x.line(-1, 0), 0);
        d.due("about(5)", x.about(5), 0);
        d.due("pairs()", x.pairs(), 0);
        d.due("line(1, 0)", x.line(1, 0), 1);
        d.due("line(-1, -1)", x.line(-1, -1), 0);
        d.due("line(-1, MAX): whatever the other is", x.line(-1, MAX), 0);
        d.due("about(4): no STEP", x.about(4), 0);
    }

    @Holds(promise = 35, says = "-2 for others, or if there are 8.")
    static void noSuchLine(Due d) {
        BellTongue x = new BellTongue();
        d.due("line(0, 0) without WORDS", x.line(0, 0), -2);
        x = Scene.words(2);
        for (int other : new int[] {2, 9, 10, -2, MIN, MAX}) {
            d.due("line(0, " + other + ")", x.line(0, other), -2);
            d.due("line(" + other + ", 0)", x.line(other, 0), -2);
        }
        d.due("line(0, -1)", x.line(0, -1), -2);
        d.due("about(5)", x.about(5), 0);
        for (int i = 0; i < 8; i++) {
            x.line(0, 0);
        }
        d.due("line(1, 1): there are 8", x.line(1, 1), -2);
        d.due("about(5)", x.about(5), 8);
    }

    @Holds(promise = 36, says = {"TEXTS (bits) by whose follows (place 1) all were right.",
        "WHOSE GRAMMAR (bits)."})
    static void whoseAtItsEdges(Due d) {
        BellTongue x = Scene.bells(9);
        Scene.word(x, 0, 0, 0);
        Scene.word(x, 3, 99, 0);
        d.due("whose() without TEXTS", x.whose(), 0);
        Due.read(x, "follows place=1;");
        Due.read(x, "over 1=0; begins 1=0;");
        Due.read(x, "follows kind=0 and means=0 and next=3 and meaning=99;");
        Due.read(x, "follows place#1;");
        d.due("whose() without LINES: none was wrong", x.whose(), 15);
        x.line(0, 1);
        d.due("whose()", x.whose(), 7);
        for (int i = 0; i < 6; i++) {
            x.line(0, 1);
        }
        d.due("whose()", x.whose(), 7);
        x.line(1, 0);
        d.due("whose(): the eighth was wrong", x.whose(), 3);
        x.by(3);
        d.due("whose(): whatever rules", x.whose(), 3);
        x.line(-1, 0);
        d.due("whose()", x.whose(), 15);
    }

    @Holds(promise = 37, says = {"PAIRS: KINDS (bits of 4 * first and second) seen in these.",
        "PAIRS (bits)."})
    static void pairsAtTheirEdges(Due d) {
        BellTongue x = Scene.bells(9);
        d.due("pairs() without LINES", x.pairs(), 0);
        for (int kind = 0; kind < 4; kind++) {
            Scene.word(x, kind, 0, 0);
        }
        for (int first = 0; first < 4; first++) {
            for (int second = 0; second < 4; second++) {
                x.line(-1, 0);
                x.line(first, second);
                d.due("pairs() of " + first + " " + second, x.pairs(), 1 << 4 * first + second);
                x.line(first, second);
                d.due("pairs() of two alike", x.pairs(), 1 << 4 * first + second);
            }
        }
        x.line(-1, 0);
        for (int i = 0; i < 8; i++) {
            x.line(i / 4, i % 4);
        }
        d.due("pairs() of eight", x.pairs(), 255);
    }

    // ---- promises 38, 39 ----

    @Holds(promise = 38, says = {"LIES: two rows of STROKES (told: each 12 at most) by two towers:",
        "A STROKE more of a tower's row (0, 1): how many it has (bell NONE: none any more)."})
    static void towersAtTheirEdges(Due d) {
        BellTongue x = Scene.bells(9, 9, 9, 9, 9, 9);
        for (int tower = 0; tower < 2; tower++) {
            d.due("tower(" + tower + ", -1): it has none", x.tower(tower, -1), 0);
            for (int i = 1; i <= 12; i++) {
                d.due("tower(" + tower + ", ..)", x.tower(tower, i % 6), i);
            }
        }
        d.due("tower(0, -1)", x.tower(0, -1), 0);
        d.due("tower(0, 5)", x.tower(0, 5), 1);
        d.due("tower(1, 0): the other one stays", x.tower(1, 0), -2);
        d.due("about(4): no STEP", x.about(4), 0);
        x.hands(0);
        d.due("tower(0, 5): told, not RUNG", x.tower(0, 5), 2);
    }

    @Holds(promise = 38, says = "-2 for others, or if it has 12.")
    static void noSuchTower(Due d) {
        BellTongue x = new BellTongue();
        d.due("tower(0, 0) without BELLS", x.tower(0, 0), -2);
        d.due("tower(2, -1)", x.tower(2, -1), -2);
        d.due("tower(-1, -1)", x.tower(-1, -1), -2);
        x = Scene.bells(9, 9);
        for (int other : new int[] {2, 6, -2, MIN, MAX}) {
            d.due("tower(0, " + other + ")", x.tower(0, other), -2);
            d.due("tower(" + other + ", 0)", x.tower(other, 0), -2);
        }
        d.due("lies(false): nothing was told", x.lies(false), -1);
        for (int i = 0; i < 12; i++) {
            x.tower(1, 1);
        }
        d.due("tower(1, 0): it has 12", x.tower(1, 0), -2);
        d.due("tower(0, 0)", x.tower(0, 0), 1);
        d.due("lies(true): the 13th didn't come", x.lies(true), 0);
    }

    private static void tell(BellTongue x, int tower, int... row) {
        x.tower(tower, -1);
        for (int bell : row) {
            x.tower(tower, bell);
        }
    }

    @Holds(promise = 39, says = {"the first place in which they differ (also where one ends sooner);",
        "none;"})
    static void theFirstPlace(Due d) {
        BellTongue x = Scene.bells(9, 9);
        d.due("lies(false): both empty", x.lies(false), -1);
        tell(x, 0, 0);
        d.due("lies(false): one is empty", x.lies(false), 0);
        tell(x, 1, 0);
        d.due("lies(false): alike", x.lies(false), -1);
        tell(x, 1, 1);
        d.due("lies(false): the first", x.lies(false), 0);
        tell(x, 0, 0, 0, 0, 0, 0, 0, 0, 0, 0, 0, 0, 0);
        tell(x, 1, 0, 0, 0, 0, 0, 0, 0, 0, 0, 0, 0);
        d.due("lies(false): one ends sooner", x.lies(false), 11);
        x.tower(1, 1);
        d.due("lies(false): the last", x.lies(false), 11);
        tell(x, 1, 0, 0, 0, 0, 0, 0, 0, 0, 0, 0, 0, 0);
        d.due("lies(false): 12 alike", x.lies(false), -1);
        tell(x, 0);
        d.due("lies(false): the other is empty", x.lies(false), 0);
    }

    @Holds(promise = 39, says = {"the longest run of STROKES that both have "
        + "(somewhere, one behind the other): how many.",
        "LIES: the first place (run false; NONE: none), the longest run (run true)."})
    static void theLongestRun(Due d) {
        BellTongue x = Scene.bells(9, 9, 9);
        d.due("lies(true): both empty", x.lies(true), 0);
        tell(x, 0, 0, 0, 0);
        d.due("lies(true): one is empty", x.lies(true), 0);
        tell(x, 1, 1, 1, 1);
        d.due("lies(true): none alike", x.lies(true), 0);
        tell(x, 1, 1, 0, 1, 0, 0, 1);
        d.due("lies(true): one behind the other", x.lies(true), 2);
        tell(x, 0, 2, 2, 2, 2, 2, 2, 2, 2, 2, 2, 2, 0);
        tell(x, 1, 0);
        d.due("lies(true): at the end of one", x.lies(true), 1);
        tell(x, 1, 2, 2, 2, 2, 2, 2, 2, 2, 2, 2, 0, 2);
        d.due("lies(true): from the second to the last", x.lies(true), 11);
        tell(x, 1, 2, 2, 2, 2, 2, 2, 2, 2, 2, 2, 2, 0);
        d.due("lies(true): all", x.lies(true), 12);
        tell(x, 0, 0, 1, 2);
        tell(x, 1, 2, 0, 1);
        d.due("lies(true): in another place", x.lies(true), 2);
        d.due("lies(false)", x.lies(false), 0);
    }
}
