/** Edges of promises 24 to 27, 32: READINGS, MEANT, NEAREST. */
final class EdgesOfReadings {
    private static final int MIN = Integer.MIN_VALUE;
    private static final int MAX = Integer.MAX_VALUE;

    private EdgesOfReadings() {
    }

    // ---- promise 24 ----

    @Holds(promise = 24, says = "All that follows changes nothing.")
    static void askingChangesNothing(Due d) {
        BellTongue x = Scene.words(3);
        Scene.ring(x, 0, 0, 0);
        x.sunday();
        Scene.ring(x, 0, 0);
        x.tower(0, 0);
        x.line(0, 1);
        d.rule(x, "follows kind=next; over loud>3;");
        String before = Scene.state(x);
        for (int i = -1; i < 4; i++) {
            x.readings(i > 0);
            x.reading(i > 0, i);
            x.meant(i, i, i > 0);
            x.shortest(i);
            x.atWorst(i);
            x.away(i, 0);
            x.apart(i);
            x.nearest();
            x.settles(i, i);
            x.whose();
            x.pairs();
            x.lies(i > 0);
            x.newBell(i);
            x.farthest();
            x.ropes();
            x.changes(3, 12, 210, i > 0);
            x.takes(i);
        }
        d.due("all is as it was", Scene.state(x).equals(before), true);
        d.due("undo()", x.undo(), 5);
    }

    @Holds(promise = 24, says = {"READINGS of HEARD: ways to part all STROKES HEARD, "
        + "in their order, in WORDS", "READINGS, with SENSE (sense true) or any."})
    static void waysToPart(Due d) {
        BellTongue x = Scene.bells(9, 9, 2);
        Scene.word(x, 0, 0, 0, 1);
        Scene.word(x, 0, 0, 0, 1);
        Scene.word(x, 0, 0, 0, 1, 0, 1);
        Scene.word(x, 0, 0, 0);
        Scene.ring(x, 0, 2, 1);
        d.due("readings(false): two WORDS of like STROKES", x.readings(false), 2);
        Scene.ring(x, 2, 0, 1);
        d.due("readings(false)", x.readings(false), 5);
        x.ring(0);
        d.due("readings(false)", x.readings(false), 5);
        x.undo();
        x.ring(1);
        d.due("readings(false): all STROKES, to the last", x.readings(false), 0);
        x.sunday();
        Scene.ring(x, 1, 0);
        d.due("readings(false): in their order", x.readings(false), 0);
        x.sunday();
        x.ring(2);
        d.due("readings(false): none HEARD", x.readings(false), 1);
        x.set(false, 0);
        x.ring(2);
        d.due("readings(false): a BELL of no WORD", x.readings(false), 0);
    }

    @Holds(promise = 24, says = "(none HEARD: one, without WORDS);")
    static void noneHeard(Due d) {
        BellTongue x = new BellTongue();
        d.due("readings(false) of a new object", x.readings(false), 1);
        d.due("readings(true) of a new object", x.readings(true), 1);
        x = Scene.words(10);
        d.rule(x, "begins 1=0; follows 1=0;");
        d.due("readings(false)", x.readings(false), 1);
        d.due("readings(true): no WORD must begin", x.readings(true), 1);
        d.due("reading(true, -1)", x.reading(true, -1), 0);
    }

    @Holds(promise = 24, says = "with SENSE: begins is so of its first WORD, "
        + "follows of each one and the one behind it:")
    static void withSense(Due d) {
        BellTongue x = Scene.bells(9);
        for (int kind = 0; kind < 4; kind++) {
            Scene.word(x, kind, kind, 0);
        }
        x.ring(0);
        d.rule(x, "begins kind=3; follows 1=0;");
        d.due("readings(true): one WORD follows none", x.readings(true), 1);
        d.due("readings(false)", x.readings(false), 4);
        x.ring(0);
        d.due("readings(true)", x.readings(true), 0);
        d.rule(x, "follows next=kind+1;");
        d.due("readings(true): 01 12 23", x.readings(true), 3);
        x.ring(0);
        d.due("readings(true): 012 123", x.readings(true), 2);
        x.ring(0);
        d.due("readings(true): 0123", x.readings(true), 1);
        x.ring(0);
        d.due("readings(true)", x.readings(true), 0);
        d.rule(x, "begins kind=1; follows next=1 and kind=1;");
        d.due("readings(true): 11111", x.readings(true), 1);
        d.rule(x, "follows next=3-kind and place<4 or place=4 and next=kind;");
        d.due("readings(true): by place", x.readings(true), 4);
    }

    @Holds(promise = 24, says = "follows of each one and the one behind it:")
    static void withSenseOfAllLengths(Due d) {
        BellTongue x = Scene.bells(9);
        for (int i = 0; i < 10; i++) {
            Scene.word(x, i % 4, i, new int[1 + i % 4]);
        }
        d.rule(x, "follows kind+next+place#4 and meaning-means<5;begins kind#2;");
        for (int n = 0; n <= 24; n++) {
            int want = (int) Math.min(1000000, sensible(n, -1, 0, new long[25 * 25 * 11]));
            d.due("readings(true) of " + n, x.readings(true), want);
            x.ring(0);
        }
    }

    /** WORDS of length 1 + w mod 4 and KIND w mod 4 that mean w; in known each way plus 1. */
    private static long sensible(int rest, int ahead, int place, long[] known) {
        int at = (rest * 25 + place) * 11 + ahead + 1;
        if (rest == 0 || known[at] > 0) {
            return rest == 0 ? 1 : known[at] - 1;
        }
        long sum = 0;
        for (int w = 0; w < 10; w++) {
            boolean sense = ahead < 0 ? w % 4 != 2
                    : ahead % 4 + w % 4 + place != 4 && w - ahead < 5;
            if (sense && 1 + w % 4 <= rest) {
                sum += sensible(rest - 1 - w % 4, w, place + 1, known);
            }
        }
        known[at] = sum + 1;
        return sum;
    }

    @Holds(promise = 24, says = "how many of both (1000000 at most each).")
    static void aMillionAtMost(Due d) {
        BellTongue x = Scene.words(10);
        Scene.ringTimes(x, 0, 5);
        d.due("readings(false)", x.readings(false), 100000);
        x.ring(0);
        d.due("readings(false): just a million", x.readings(false), 1000000);
        x.ring(0);
        d.due("readings(false): more", x.readings(false), 1000000);
        d.due("readings(true): more", x.readings(true), 1000000);
        d.rule(x, "follows place<6 or meaning=0;");
        d.due("readings(true): just a million with sense", x.readings(true), 1000000);
        d.rule(x, "follows place<6 or meaning<0;");
        d.due("readings(true): none of a million", x.readings(true), 0);
        d.rule(x, "begins means#9;follows place<6 or meaning=0;");
        d.due("readings(true)", x.readings(true), 900000);
        Scene.ringTimes(x, 0, 17);
        d.due("readings(true) of 24", x.readings(true), 900000);
        d.due("readings(false) of 24", x.readings(false), 1000000);
        BellTongue y = Scene.bells(9);
        for (int i = 0; i < 3; i++) {
            Scene.word(y, 0, 0, new int[1 + i]);
        }
        // 1 2 4 7 13 .. : each the sum of the three ahead of it
        int[] ways = {1, 1, 2, 4, 7, 13, 24, 44};
        for (int i = 0; i < ways.length; i++) {
            d.due("readings(false) of " + i, y.readings(false), ways[i]);
            y.ring(0);
        }
        Scene.ringTimes(y, 0, 14);
        d.due("readings(false) of 22", y.readings(false), 410744);
        y.ring(0);
        d.due("readings(false) of 23", y.readings(false), 755476);
        y.ring(0);
        d.due("readings(false) of 24", y.readings(false), 1000000);
    }

    // ---- promise 25 ----

    @Holds(promise = 25, says = {"THE FIRST READING (with sense or any): by the lowest first WORD, "
        + "then the second, ..: how many WORDS, the i-th.", "THE FIRST READING, with SENSE "
        + "(sense true) or any: how many WORDS (i NONE), the i-th."})
    static void theFirstReading(Due d) {
        BellTongue x = Scene.bells(9, 9);
        Scene.word(x, 0, 0, 0, 0, 0);
        Scene.word(x, 1, 1, 0);
        Scene.word(x, 2, 2, 0, 0, 0, 0);
        Scene.word(x, 3, 3, 1);
        d.due("reading(false, -1) of nothing", x.reading(false, -1), 0);
        d.due("reading(true, -1) of nothing", x.reading(true, -1), 0);
        Scene.ringTimes(x, 0, 4);
        // the lowest first WORD, not the fewest WORDS: 0 1
        reads(d, x, false, 0, 1);
        d.rule(x, "follows kind#0;");
        // 1 0 is lower than 1 1 1 1 and 2
        reads(d, x, true, 1, 0);
        d.rule(x, "follows kind#0 and next#0;");
        reads(d, x, true, 1, 1, 1, 1);
        d.rule(x, "follows 1=0;");
        reads(d, x, true, 2);
        reads(d, x, false, 0, 1);
        x.ring(1);
        // 0 1 3: the first that reads to the end
        reads(d, x, false, 0, 1, 3);
        BellTongue y = Scene.bells(9, 9, 9);
        Scene.word(y, 0, 0, 0);
        Scene.word(y, 0, 0, 0, 1);
        d.rule(y, "follows 1=1;");
        y.ring(0);
        reads(d, y, true, 0);
        y.ring(1);
        // 0 alone could be read, but not what is behind it then
        reads(d, y, true, 1);
        reads(d, y, false, 1);
        x.sunday();
        Scene.ringTimes(x, 1, 24);
        d.due("reading(false, -1) of 24", x.reading(false, -1), 24);
        d.due("reading(false, 23)", x.reading(false, 23), 3);
        d.due("reading(false, 24)", x.reading(false, 24), -2);
    }

    private static void reads(Due d, BellTongue x, boolean sense, int... words) {
        d.due("reading(" + sense + ", -1)", x.reading(sense, -1), words.length);
        for (int i = 0; i < words.length; i++) {
            d.due("reading(" + sense + ", " + i + ")", x.reading(sense, i), words[i]);
        }
        d.due("reading(" + sense + ", " + words.length + ")", x.reading(sense, words.length), -2);
    }

    @Holds(promise = 25, says = "-2: none, there is none such, and for others.")
    static void noReading(Due d) {
        BellTongue x = Scene.bells(9);
        d.due("reading(false, 0) of nothing", x.reading(false, 0), -2);
        d.due("reading(true, 0) of nothing", x.reading(true, 0), -2);
        x.ring(0);
        d.due("reading(false, -1): none", x.reading(false, -1), -2);
        d.due("reading(true, -1): none", x.reading(true, -1), -2);
        d.due("reading(false, 0): none", x.reading(false, 0), -2);
        Scene.word(x, 0, 0, 0);
        d.due("reading(false, -1)", x.reading(false, -1), 1);
        for (int i : new int[] {1, 24, -2, MIN, MAX}) {
            d.due("reading(false, " + i + ")", x.reading(false, i), -2);
            d.due("reading(true, " + i + ")", x.reading(true, i), -2);
        }
        d.rule(x, "follows 1=1;");
        x.ring(0);
        d.due("readings(true)", x.readings(true), 1);
        x.bell(9, 9, 1);
        x.ring(1);
        d.due("readings(true): a BELL of no WORD behind it", x.readings(true), 0);
        d.due("reading(true, -1)", x.reading(true, -1), -2);
        x.undo();
        d.rule(x, "begins 1=0;");
        d.due("reading(true, -1): none with sense", x.reading(true, -1), -2);
        d.due("reading(true, 0)", x.reading(true, 0), -2);
        d.due("reading(false, 0)", x.reading(false, 0), 0);
        d.due("reading(true, -2): for others", x.reading(true, -2), -2);
    }

    // ---- promise 26 ----

    @Holds(promise = 26, says = {"A weight of a WORD: true.",
        "MEANT: of all WORDS, each with a weight (told, 0 .. 99; at first 1):"})
    static void weightsAtTheirEdges(Due d) {
        BellTongue x = Scene.words(2);
        x.ring(0);
        odds(d, x, 0, 5, 1, 2);
        d.due("weight(0, 99)", x.weight(0, 99), true);
        odds(d, x, 0, 5, 99, 100);
        odds(d, x, 1, 5, 1, 100);
        d.due("weight(0, 0)", x.weight(0, 0), true);
        odds(d, x, 0, 5, 0, 1);
        odds(d, x, 1, 5, 1, 1);
        d.due("weight(0, 0), as it is", x.weight(0, 0), true);
        Scene.word(x, 0, 0, 0);
        odds(d, x, 2, 5, 1, 2);
        d.due("about(4): no STEP", x.about(4), 1);
    }

    @Holds(promise = 26, says = "False for others.")
    static void noSuchWeight(Due d) {
        BellTongue x = Scene.words(2);
        x.ring(0);
        int[][] others = {{0, -1}, {0, 100}, {0, MIN}, {0, MAX}, {2, 1}, {10, 1}, {-1, 1},
            {MIN, 1}, {MAX, 1}};
        for (int[] o : others) {
            d.due("weight(" + o[0] + ", " + o[1] + ")", x.weight(o[0], o[1]), false);
        }
        odds(d, x, 0, 5, 1, 2);
        Scene.word(x, 0, 0, 0);
        odds(d, x, 2, 5, 1, 3);
    }

    // ---- promise 27 ----

    private static void odds(Due d, BellTongue x, int word, int p, long upper, long lower) {
        d.due("meant(" + word + ", " + p + ", false)", x.meant(word, p, false), upper);
        d.due("meant(" + word + ", " + p + ", true)", x.meant(word, p, true), lower);
    }

    @Holds(promise = 27, says = {"which was RUNG, if just HEARD is what got over of it, "
        + "each STROKE being lost with p (0 .. 10) of 10:",
        "MEANT: the upper (low false), the lower one (low true)."})
    static void lostByNoneAndByAll(Due d) {
        BellTongue x = Scene.bells(9, 9);
        Scene.word(x, 0, 0, 0);
        Scene.word(x, 0, 0, 0, 1);
        Scene.word(x, 0, 0, 1);
        // none HEARD: by p 10 all is lost for sure, by p 0 nothing is
        for (int w = 0; w < 3; w++) {
            odds(d, x, w, 10, 1, 3);
            odds(d, x, w, 0, 0, 1);
        }
        x.ring(0);
        odds(d, x, 0, 0, 1, 1);
        odds(d, x, 1, 0, 0, 1);
        odds(d, x, 0, 10, 0, 1);
        // 9/10 and 9/100
        odds(d, x, 0, 1, 10, 11);
        odds(d, x, 1, 1, 1, 11);
        // 1/10 and 9/100
        odds(d, x, 0, 9, 10, 19);
        odds(d, x, 1, 9, 9, 19);
    }

    @Holds(promise = 27, says = "the ODDS that it was one: its weight times, for each way in which "
        + "HEARD is left of it, p for each lost and 10 less p for each kept STROKE;")
    static void eachWayCounts(Due d) {
        BellTongue x = Scene.bells(9, 9);
        Scene.word(x, 0, 0, 0, 0, 0, 0);
        Scene.word(x, 0, 0, 0, 1, 0, 1);
        x.ring(0);
        // 4 ways and 2
        odds(d, x, 0, 3, 2, 3);
        x.ring(0);
        // 6 ways and one
        odds(d, x, 0, 3, 6, 7);
        odds(d, x, 1, 3, 1, 7);
        x.weight(1, 6);
        odds(d, x, 1, 3, 1, 2);
        x.ring(0);
        odds(d, x, 0, 3, 1, 1);
        x.sunday();
        Scene.ring(x, 0, 1);
        // of 0 1 0 1 three ways: in their order
        odds(d, x, 1, 3, 1, 1);
        odds(d, x, 0, 3, 0, 1);
        x.sunday();
        Scene.ring(x, 0, 0, 0, 0);
        odds(d, x, 0, 9, 1, 1);
        x.ring(0);
        odds(d, x, 0, 9, 0, 1);
    }

    @Holds(promise = 27, says = "by that of all WORDS together, in lowest terms")
    static void inLowestTerms(Due d) {
        BellTongue x = Scene.words(10);
        x.ring(0);
        odds(d, x, 9, 5, 1, 10);
        for (int w = 0; w < 10; w++) {
            x.weight(w, 98);
        }
        x.weight(9, 0);
        odds(d, x, 8, 4, 1, 9);
        x.weight(9, 99);
        odds(d, x, 9, 4, 11, 109);
        odds(d, x, 0, 4, 98, 981);
    }

    @Holds(promise = 27, says = "(0 by 1, if it can't be any;")
    static void itCannotBeAny(Due d) {
        BellTongue x = Scene.bells(9, 9);
        Scene.word(x, 0, 0, 0);
        Scene.word(x, 0, 0, 1, 1, 1, 1);
        Scene.ring(x, 0, 1);
        odds(d, x, 0, 5, 0, 1);
        odds(d, x, 1, 5, 0, 1);
        x.undo();
        odds(d, x, 0, 10, 0, 1);
        odds(d, x, 0, 9, 1, 1);
        odds(d, x, 1, 9, 0, 1);
        x.weight(0, 0);
        odds(d, x, 0, 5, 0, 1);
        x.sunday();
        Scene.ringTimes(x, 0, 24);
        odds(d, x, 0, 5, 0, 1);
    }

    @Holds(promise = 27, says = "WORDS of unlike lengths: each way's product by ten for each STROKE).")
    static void wordsOfUnlikeLengths(Due d) {
        BellTongue x = Scene.bells(9);
        for (int size = 1; size <= 4; size++) {
            Scene.word(x, 0, 0, new int[size]);
        }
        // none HEARD, p 1: 1/10, 1/100, 1/1000, 1/10000
        int[] upper = {1000, 100, 10, 1};
        for (int w = 0; w < 4; w++) {
            odds(d, x, w, 1, upper[w], 1111);
        }
        x.ring(0);
        // p 1: 9/10, 2 * 9/100, 3 * 9/1000, 4 * 9/10000: 1000, 200, 30, 4 of 1234
        odds(d, x, 0, 1, 500, 617);
        odds(d, x, 1, 1, 100, 617);
        odds(d, x, 2, 1, 15, 617);
        odds(d, x, 3, 1, 2, 617);
    }

    @Holds(promise = 27, says = "NONE for others.")
    static void meantOfOthers(Due d) {
        BellTongue x = Scene.bells(9);
        d.due("meant(0, 5, false) without WORDS", x.meant(0, 5, false), -1);
        Scene.word(x, 0, 0, 0);
        int[][] others = {{1, 5}, {-1, 5}, {10, 5}, {0, -1}, {0, 11}, {0, MIN}, {0, MAX}, {MIN, 5},
            {MAX, 5}};
        for (int[] o : others) {
            d.due("meant(" + o[0] + ", " + o[1] + ", false)", x.meant(o[0], o[1], false), -1);
            d.due("meant(" + o[0] + ", " + o[1] + ", true)", x.meant(o[0], o[1], true), -1);
        }
    }

    // ---- promise 32 ----

    @Holds(promise = 32, says = {"NEAREST: WORDS (bits) that are fewest AWAY from HEARD.",
        "NEAREST (bits; no WORDS: 0)."})
    static void nearestAtItsEdges(Due d) {
        BellTongue x = Scene.bells(9, 9);
        d.due("nearest() without WORDS", x.nearest(), 0);
        x.ring(0);
        d.due("nearest() without WORDS", x.nearest(), 0);
        x.undo();
        for (int i = 0; i < 10; i++) {
            Scene.word(x, 0, 0, new int[1 + i % 4]);
        }
        d.due("nearest() to nothing: the shortest", x.nearest(), 1 | 16 | 256);
        Scene.ringTimes(x, 0, 4);
        d.due("nearest(): just it", x.nearest(), 8 | 128);
        Scene.ringTimes(x, 0, 20);
        d.due("nearest() to 24: the longest", x.nearest(), 8 | 128);
        x.sunday();
        Scene.ringTimes(x, 1, 24);
        d.due("nearest() to 24 others: all alike", x.nearest(), 1023);
        x.sunday();
        x.ring(1);
        d.due("nearest() to another: one changed", x.nearest(), 1 | 16 | 256);
    }
}
