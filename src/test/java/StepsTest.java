/** Promises 10 to 17, 21 to 23: STEPS, what they leave, and how they are taken back. */
public final class StepsTest {
    private static final Due D = new Due();

    public static void main(String[] args) {
        ring();
        speak();
        set();
        hour();
        lastHours();
        sunday();
        fullBook();
        played();
        playedClauses();
        playedHours();
        centuries();
        centuriesAtTheEnd();
        undo();
        undoKeepsTheRest();
        rungAndHeard();
        D.close("StepsTest");
    }

    /** BELL 0 LOUD 5 by one man, BELL 1 LOUD 2 by 9, BELL 2 LOUD 9 by 3. */
    private static BellTongue threeBells() {
        BellTongue x = new BellTongue();
        x.bell(5, 0, 1);
        x.bell(2, 4, 9);
        x.bell(9, 8, 3);
        return x;
    }

    private static void ring() {
        D.about("promise 10");
        BellTongue x = new BellTongue();
        D.due("ring(0)", x.ring(0), -1);
        x = threeBells();
        D.due("ring(0)", x.ring(0), 1);
        D.due("ring(1)", x.ring(1), 0);
        D.due("ring(3)", x.ring(3), -1);
        D.due("ring(-1)", x.ring(-1), -1);
        D.due("ring(MIN)", x.ring(Integer.MIN_VALUE), -1);
        D.due("ring(MAX)", x.ring(Integer.MAX_VALUE), -1);
        x.hands(2);
        D.due("ring(2)", x.ring(2), -1);
        x.hands(3);
        D.due("ring(2)", x.ring(2), 1);
        D.due("about(4)", x.about(4), 3);
        for (int i = 3; i < 24; i++) {
            D.due("ring(0)", x.ring(0), 1);
        }
        D.due("ring(0) when RUNG is full", x.ring(0), -1);
        D.due("rung(-1)", x.rung(-1), 24);
        D.due("about(4)", x.about(4), 24);
        x.sunday();
        D.due("ring(0)", x.ring(0), 1);
    }

    private static void speak() {
        D.about("promise 11");
        BellTongue x = threeBells();
        D.due("speak(0)", x.speak(0), -1);
        x.word(0, 1, 2, 0, 0, 0);
        x.word(0, 2, -1, -1, 0, 0);
        D.due("speak(0)", x.speak(0), 3);
        D.due("about(4): one step", x.about(4), 1);
        D.due("rung(1)", x.rung(1), 1);
        D.due("rung(3)", x.rung(3), 10);
        D.due("speak(2)", x.speak(2), -1);
        D.due("speak(-1)", x.speak(-1), -1);
        D.due("speak(MAX)", x.speak(Integer.MAX_VALUE), -1);
        x.hands(8);
        D.due("speak(0) by 8 hands", x.speak(0), -1);
        D.due("speak(1) by 8 hands", x.speak(1), 2);
        x.hands(2);
        D.due("speak(1) by 2 hands", x.speak(1), -1);
        D.due("rung(-1)", x.rung(-1), 6);
        x.hands(9);
        for (int i = 0; i < 4; i++) {
            D.due("speak(0)", x.speak(0), 3);
        }
        D.due("speak(0): room for two", x.speak(0), -1);
        D.due("rung(-1)", x.rung(-1), 22);
        D.due("speak(1)", x.speak(1), 2);
        D.due("speak(1)", x.speak(1), -1);
        x = threeBells();
        x.word(0, 0, 0, 0, 0, 0);
        D.rule(x, "over strokes=1 or strokes>2;");
        D.due("speak(0): over asked of each as it comes", x.speak(0), 2);
        D.due("rung(0)", x.rung(0), 0);
        D.due("rung(1)", x.rung(1), 10);
        D.due("rung(2)", x.rung(2), 0);
        D.due("rung(3)", x.rung(3), 10);
    }

    private static void set() {
        D.about("promise 12");
        BellTongue x = new BellTongue();
        D.due("set(false, 2): it is so", x.set(false, 2), false);
        D.due("set(true, 0): it is so", x.set(true, 0), false);
        D.due("set(false, -1)", x.set(false, -1), false);
        D.due("set(false, 10)", x.set(false, 10), false);
        D.due("set(true, 10)", x.set(true, 10), false);
        D.due("set(true, MIN)", x.set(true, Integer.MIN_VALUE), false);
        D.due("about(4)", x.about(4), 0);
        D.due("set(false, 0)", x.set(false, 0), true);
        D.due("set(true, 2)", x.set(true, 2), true);
        D.due("set(false, 9)", x.set(false, 9), true);
        D.due("set(true, 9)", x.set(true, 9), true);
        D.due("is(0)", x.is(0), 9);
        D.due("is(1)", x.is(1), 9);
        D.due("about(4)", x.about(4), 4);
        D.due("undo()", x.undo(), 3);
        D.due("is(1)", x.is(1), 2);
        D.due("undo()", x.undo(), 2);
        D.due("is(0)", x.is(0), 0);
    }

    private static void hour() {
        D.about("promise 13");
        BellTongue x = new BellTongue();
        D.due("hour(0)", x.hour(0), -1);
        D.due("hour(61)", x.hour(61), -1);
        D.due("hour(-1)", x.hour(-1), -1);
        D.due("hour(MAX)", x.hour(Integer.MAX_VALUE), -1);
        D.due("hour(MIN)", x.hour(Integer.MIN_VALUE), -1);
        D.due("is(4)", x.is(4), 101);
        D.due("about(4)", x.about(4), 0);
        D.due("hour(2)", x.hour(2), 2);
        // draws: 101 by 10, 1471 by 3 (1: stays), 5507 by 10, 24794 by 3 (2: one more)
        D.due("is(0)", x.is(0), 7);
        D.due("is(1)", x.is(1), 1);
        D.due("is(4)", x.is(4), 23766);
        D.due("about(4): each is a step", x.about(4), 2);
        D.due("hour(60)", x.hour(60), 62);
        D.due("about(4)", x.about(4), 30);
        boolean low = false;
        boolean high = false;
        int seed = x.is(4);
        for (int i = 0; i < 150; i++) {
            int wind = seed % 10;
            seed = (seed * 313 + 199) % 30341;
            int frost = Math.max(0, Math.min(9, x.is(1) + seed % 3 - 1));
            low |= x.is(1) == 0 && seed % 3 == 0;
            high |= x.is(1) == 9 && seed % 3 == 2;
            seed = (seed * 313 + 199) % 30341;
            D.due("hour(1)", x.hour(1), 63 + i);
            D.due("is(0)", x.is(0), wind);
            D.due("is(1)", x.is(1), frost);
            D.due("is(4)", x.is(4), seed);
        }
        D.due("FROST stood at an edge", low || high, true);
    }

    private static BellTongue atHour(int hour) {
        BellTongue x = new BellTongue();
        for (int i = 0; i < hour / 60; i++) {
            x.hour(60);
        }
        if (hour % 60 > 0) {
            x.hour(hour % 60);
        }
        return x;
    }

    private static void lastHours() {
        D.about("promise 13, the end");
        BellTongue x = atHour(9990);
        D.due("is(2)", x.is(2), 9990);
        int seed = x.is(4);
        D.due("hour(10)", x.hour(10), -1);
        D.due("hour(60)", x.hour(60), -1);
        D.due("is(4)", x.is(4), seed);
        D.due("is(2)", x.is(2), 9990);
        D.due("hour(9)", x.hour(9), 9999);
        D.due("hour(1)", x.hour(1), -1);
        D.due("is(2)", x.is(2), 9999);
    }

    private static void sunday() {
        D.about("promises 14, 23");
        BellTongue x = threeBells();
        x.word(0, -1, -1, -1, 0, 0);
        x.word(0, 0, -1, -1, 0, 0);
        x.hour(1);
        // WIND is 1 then
        D.due("sunday() of nothing", x.sunday(), 1);
        x.set(false, 2);
        x.ring(0);
        x.ring(1);
        x.ring(0);
        x.ring(0);
        D.due("sunday()", x.sunday(), 3);
        D.due("rung(-1)", x.rung(-1), 0);
        D.due("heard(-1)", x.heard(-1), 0);
        x.ring(2);
        D.due("sunday() that can't be read", x.sunday(), 0);
        D.due("book(-1, 0)", x.book(-1, 0), 3);
        int[][] want = {{1, 0, 0, 1}, {1, 4, 3, 3}, {1, 1, 1, 0}};
        for (int i = 0; i < 3; i++) {
            for (int j = 0; j < 4; j++) {
                D.due("book(" + i + ", " + j + ")", x.book(i, j), want[i][j]);
            }
        }
        D.due("book(3, 0)", x.book(3, 0), -2);
        D.due("book(-2, 0)", x.book(-2, 0), -2);
        D.due("book(0, 4)", x.book(0, 4), -2);
        D.due("book(0, -1)", x.book(0, -1), -2);
        D.due("book(MIN, MIN)", x.book(Integer.MIN_VALUE, Integer.MIN_VALUE), -2);
        D.due("book(MAX, 0)", x.book(Integer.MAX_VALUE, 0), -2);
        D.rule(x, "begins 1=0;");
        x.ring(0);
        D.due("sunday() without sense", x.sunday(), 0);
        D.due("undo()", x.undo() >= 0, true);
        D.due("book(-1, 0)", x.book(-1, 0), 3);
        D.due("rung(-1)", x.rung(-1), 1);
    }

    private static void fullBook() {
        D.about("promise 23, the latest 20");
        BellTongue x = threeBells();
        for (int i = 0; i < 23; i++) {
            for (int j = 0; j < i; j++) {
                x.ring(0);
            }
            x.sunday();
            D.due("book(-1, 0)", x.book(-1, 0), Math.min(20, i + 1));
        }
        for (int i = 0; i < 20; i++) {
            D.due("book(" + i + ", 1)", x.book(i, 1), i + 3);
        }
        D.due("book(20, 1)", x.book(20, 1), -2);
        x.undo();
        for (int i = 0; i < 20; i++) {
            D.due("book(" + i + ", 1) behind undo", x.book(i, 1), i + 2);
        }
    }

    private static void played() {
        D.about("promise 15");
        BellTongue x = new BellTongue();
        D.due("played(0)", x.played(0), -2);
        D.due("played(-1)", x.played(-1), -2);
        D.due("text()", Due.read(x, "over 1=1; bell 3 pitch 4 men 5; word 2 means 77:0 0 0;"
                + "ring 0; speak 0; wind 5; frost 6; hour 2; sunday; begins 1=0;"), 0);
        D.due("played(0)", x.played(0), -1);
        D.due("played(1)", x.played(1), -2);
        D.due("played(MAX)", x.played(Integer.MAX_VALUE), -2);
        D.due("played(MIN)", x.played(Integer.MIN_VALUE), -2);
        int[] bell = {3, 4, 5};
        for (int i = 0; i < 3; i++) {
            D.due("ofBell(0, " + i + ")", x.ofBell(0, i), bell[i]);
        }
        int[] word = {2, 77, 3, 5, 0, 0, 0, -1};
        for (int i = 0; i < 8; i++) {
            D.due("ofWord(0, " + i + ")", x.ofWord(0, i), word[i]);
        }
        D.due("is(2)", x.is(2), 2);
        // by its own clauses alone; 3 is above 2, so without laws of a TEXT all were heard
        D.due("book(0, 0)", x.book(0, 0), 2);
        D.due("book(0, 1)", x.book(0, 1), 4);
        D.due("book(0, 2)", x.book(0, 2), 4);
        D.due("book(0, 3)", x.book(0, 3), 0);
        D.due("about(3)", x.about(3), -1);
        // ring, speak, wind, frost, two hours, sunday
        D.due("about(4)", x.about(4), 7);
        x.undo();
        D.due("rung(-1)", x.rung(-1), 4);
        x.undo();
        x.undo();
        D.due("is(0)", x.is(0), 5);
        D.due("is(1)", x.is(1), 6);
        D.due("is(4)", x.is(4), 101);
        x.undo();
        D.due("is(1)", x.is(1), 0);
        x.undo();
        D.due("is(0)", x.is(0), 2);
        x.undo();
        D.due("rung(-1)", x.rung(-1), 1);
        D.due("undo()", x.undo(), 0);
        D.due("about(0): bells stay", x.about(0), 1);
    }

    private static void playedAs(String text, int want) {
        BellTongue x = threeBells();
        x.word(0, -1, -1, -1, 0, 0);
        D.due("text() of " + text, Due.read(x, text), 0);
        D.due("played(0) of " + text, x.played(0), want);
    }

    private static void playedClauses() {
        D.about("promise 15, what can't be");
        playedAs("sunday; ring 3;", 1);
        playedAs("sunday; ring 2;", -1);
        playedAs("speak 1;", 0);
        playedAs("word 0 means 0:3;", 0);
        playedAs("word 0 means 0:2 3;", 0);
        playedAs("bell 1 pitch 1 men 1; ring 3; word 0 means 0:0 3; speak 1;", -1);
        playedAs("wind 2;", 0);
        playedAs("wind 3; wind 3;", 1);
        playedAs("frost 0;", 0);
        playedAs("frost 1; frost 0; frost 0; sunday;", 2);
        playedAs("over 1=1; follows 1=1; ring 0; begins 1=1; ring 5; ring 0;", 4);
        playedAs("bell 1 pitch 1 men 1;".repeat(4), 3);
        playedAs("word 0 means 0:0;".repeat(10), 9);
        playedAs("ring 0;".repeat(24), -1);
        playedAs("word 0 means 0:0 0 0 0;" + "speak 1;".repeat(7), 7);
        BellTongue y = threeBells();
        D.due("text()", Due.read(y, "begins 1=0; word 1 means 2:0 1 2 0; word 3 means 4:2 1 0;"
                + "word 0 means 0:0; ring 0; sunday;"), 0);
        y.by(0);
        D.due("played(0)", y.played(0), -1);
        D.due("book(0, 3): with sense", y.book(0, 3), 0);
        int[] row = {1, 2, 4, 9, 0, 1, 2, 0, 3, 4, 3, 9, 2, 1, 0, -1};
        for (int i = 0; i < 16; i++) {
            D.due("ofWord(" + i / 8 + ", " + i % 8 + ")", y.ofWord(i / 8, i % 8), row[i]);
        }
        BellTongue x = threeBells();
        x.hands(2);
        Due.read(x, "ring 0; ring 2; ring 0;");
        D.due("played(0) by 2 hands", x.played(0), 1);
        D.due("rung(-1): what was done stays", x.rung(-1), 1);
        x.hands(3);
        D.due("played(0) again", x.played(0), -1);
        D.due("rung(-1)", x.rung(-1), 4);
    }

    private static void playedHours() {
        D.about("promise 15, hours at the end");
        BellTongue x = atHour(9995);
        Due.read(x, "sunday; hour 5; sunday;");
        D.due("played(0)", x.played(0), 1);
        D.due("is(2): those that can pass do", x.is(2), 9999);
        D.due("book(-1, 0)", x.book(-1, 0), 1);
        int seed = x.is(4);
        D.due("played(0)", x.played(0), 1);
        D.due("is(4)", x.is(4), seed);
        x.undo();
        x.undo();
        D.due("is(2)", x.is(2), 9998);
        Due.read(x, "hour 1; sunday;");
        D.due("played(1)", x.played(1), -1);
        D.due("is(2)", x.is(2), 9999);
    }

    private static void centuries() {
        D.about("promise 16");
        BellTongue x = new BellTongue();
        D.due("centuries(0, 1)", x.centuries(0, 1), -1);
        x.bell(5, 0, 1);
        D.due("centuries(0, 1) without words", x.centuries(0, 1), -1);
        x.bell(9, 0, 1);
        x.word(0, 1, -1, -1, 0, 0);
        x.word(1, -1, -1, -1, 0, 0);
        x.word(0, 1, 1, -1, 0, 0);
        int[][] wrong = {{-1, 1}, {10000, 1}, {0, 0}, {0, 41}, {Integer.MIN_VALUE, 1},
            {0, Integer.MAX_VALUE}};
        for (int[] w : wrong) {
            D.due("centuries(" + w[0] + ", " + w[1] + ")", x.centuries(w[0], w[1]), -1);
        }
        D.due("is(4)", x.is(4), 101);
        D.due("about(4)", x.about(4), 0);
        // X is 101: 1, so WORD 101 mod 3 = 2; then 1471: 1, WORD 1; 5507: 2, a SUNDAY;
        // 24794: 4, an HOUR with draws 23766 by 10 and 5412 by 3 less 1; then 25400: 0, BELL 0
        D.due("centuries(0, 1)", x.centuries(0, 1), 0);
        D.due("rung(-1)", x.rung(-1), 3);
        D.due("is(4)", x.is(4), 1471);
        D.due("undo()", x.undo(), 0);
        D.due("is(4)", x.is(4), 101);
        D.due("rung(-1)", x.rung(-1), 0);
        D.due("centuries(0, 5)", x.centuries(0, 5), 1);
        D.due("is(0)", x.is(0), 6);
        D.due("is(1)", x.is(1), 0);
        D.due("book(-1, 0)", x.book(-1, 0), 1);
        D.due("book(0, 0)", x.book(0, 0), 0);
        D.due("book(0, 1)", x.book(0, 1), 4);
        D.due("book(0, 2)", x.book(0, 2), 4);
        // 0 1 1 1: WORDS 0 1 1, 2 1
        D.due("book(0, 3)", x.book(0, 3), 2);
        D.due("rung(-1)", x.rung(-1), 1);
        // LOUD 5, WIND 6
        D.due("rung(0)", x.rung(0), 0);
        D.due("about(4): one step", x.about(4), 1);
        D.due("undo()", x.undo(), 0);
        D.due("is(2)", x.is(2), 0);
        D.due("is(0)", x.is(0), 2);
        D.due("book(-1, 0)", x.book(-1, 0), 0);
        // what can't be is passed over
        x.hands(0);
        D.due("centuries(0, 5)", x.centuries(0, 5), 1);
        D.due("rung(-1)", x.rung(-1), 0);
        D.due("book(0, 1)", x.book(0, 1), 0);
        // 9999 * 2 + 101 is 20099: 4, an HOUR: with its own, three draws
        int draws = 20099;
        for (int i = 0; i < 3; i++) {
            draws = (draws * 313 + 199) % 30341;
        }
        D.due("centuries(9999, 1)", x.centuries(9999, 1), 2);
        D.due("is(4)", x.is(4), draws);
        // 1 * 2 + 101 is 103: 3, an HOUR, too
        D.due("centuries(1, 1)", x.centuries(1, 1), 3);
        draws = (103 * 313 + 199) % 30341;
        D.due("is(0)", x.is(0), draws % 10);
        D.due("centuries(9999, 40)", x.centuries(9999, 40) >= 1, true);
        D.due("about(4)", x.about(4), 4);
        // a SUNDAY has its sense
        x.hands(9);
        D.rule(x, "begins 1=0;");
        x.sunday();
        D.due("centuries(0, 3)", x.centuries(0, 3) >= 1, true);
        int last = x.book(-1, 0) - 1;
        D.due("book: RUNG", x.book(last, 1), 4);
        D.due("book: readings with sense", x.book(last, 3), 0);
    }

    private static void centuriesAtTheEnd() {
        D.about("promise 16, the last hour");
        BellTongue x = atHour(9999);
        x.bell(5, 0, 1);
        x.word(0, -1, -1, -1, 0, 0);
        int wind = x.is(0);
        int frost = x.is(1);
        // 24794 would be an HOUR; nothing is done, so no draws but its own
        D.due("centuries(0, 4)", x.centuries(0, 4), 9999);
        D.due("is(0)", x.is(0), wind);
        D.due("is(1)", x.is(1), frost);
        D.due("is(4)", x.is(4), 23766);
    }

    private static void undo() {
        D.about("promise 17");
        BellTongue x = threeBells();
        D.due("undo()", x.undo(), -1);
        x.ring(0);
        x.sunday();
        x.ring(0);
        D.due("undo()", x.undo(), 2);
        D.due("rung(-1)", x.rung(-1), 0);
        D.due("undo()", x.undo(), 1);
        D.due("rung(-1)", x.rung(-1), 1);
        D.due("book(-1, 0)", x.book(-1, 0), 0);
        D.due("undo()", x.undo(), 0);
        D.due("rung(-1)", x.rung(-1), 0);
        D.due("undo()", x.undo(), -1);
        for (int i = 0; i < 31; i++) {
            x.sunday();
            x.sunday();
            x.hour(1);
        }
        D.due("about(4)", x.about(4), 30);
        for (int i = 29; i >= 0; i--) {
            D.due("undo()", x.undo(), i);
        }
        D.due("undo()", x.undo(), -1);
        D.due("is(2): the latest 30 alone", x.is(2), 21);
        D.due("hour(60)", x.hour(60), 81);
        D.due("about(4)", x.about(4), 30);
        x.undo();
        D.due("is(2)", x.is(2), 80);
        D.due("ring(0)", x.ring(0) >= 0, true);
        D.due("about(4)", x.about(4), 30);
    }

    private static void undoKeepsTheRest() {
        D.about("promise 17, what isn't taken back");
        BellTongue x = threeBells();
        x.ring(0);
        x.word(0, -1, -1, -1, 0, 0);
        x.bell(1, 1, 1);
        x.hands(4);
        Due.read(x, "over 1=1;");
        x.by(0);
        x.line(0, 0);
        x.tower(0, 1);
        x.weight(0, 5);
        D.due("undo()", x.undo(), 0);
        D.due("about(0)", x.about(0), 4);
        D.due("about(1)", x.about(1), 1);
        D.due("about(2)", x.about(2), 1);
        D.due("about(3)", x.about(3), 0);
        D.due("about(5)", x.about(5), 1);
        D.due("is(3)", x.is(3), 4);
        D.due("lies(false)", x.lies(false), 0);
    }

    private static void rungAndHeard() {
        D.about("promises 21, 22");
        BellTongue x = threeBells();
        D.due("rung(0)", x.rung(0), -2);
        D.due("heard(0)", x.heard(0), -2);
        x.ring(1);
        x.ring(2);
        x.ring(0);
        x.ring(1);
        x.ring(2);
        int[] rung = {1, 12, 10, 1, 12};
        int[] heard = {2, 0, 2};
        D.due("rung(-1)", x.rung(-1), 5);
        D.due("heard(-1)", x.heard(-1), 3);
        for (int i = 0; i < 5; i++) {
            D.due("rung(" + i + ")", x.rung(i), rung[i]);
        }
        for (int i = 0; i < 3; i++) {
            D.due("heard(" + i + ")", x.heard(i), heard[i]);
        }
        D.due("rung(5)", x.rung(5), -2);
        D.due("heard(3)", x.heard(3), -2);
        D.due("rung(-2)", x.rung(-2), -2);
        D.due("heard(-2)", x.heard(-2), -2);
        D.due("rung(MAX)", x.rung(Integer.MAX_VALUE), -2);
        D.due("heard(MIN)", x.heard(Integer.MIN_VALUE), -2);
        x.set(true, 9);
        D.due("rung(0): it was not heard, whatever comes", x.rung(0), 1);
    }
}
