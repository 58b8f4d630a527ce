/** Promises 1 to 4, 18 to 20, 40 to 42, 44, 47: what is told, and what is asked of it. */
public final class ToldTest {
    private static final Due D = new Due();
    private static final int MIN = Integer.MIN_VALUE;
    private static final int MAX = Integer.MAX_VALUE;

    public static void main(String[] args) {
        newObject();
        bells();
        words();
        hands();
        ofBell();
        ofWord();
        is();
        newBells();
        ropes();
        takes();
        about();
        D.close("ToldTest");
    }

    private static void newObject() {
        D.about("promise 1");
        BellTongue x = new BellTongue();
        for (int i = 0; i < 7; i++) {
            D.due("about(" + i + ")", x.about(i), i == 3 ? -1 : 0);
        }
        D.due("is(0)", x.is(0), 2);
        D.due("is(1)", x.is(1), 0);
        D.due("is(2)", x.is(2), 0);
        D.due("is(3)", x.is(3), 9);
        D.due("is(4)", x.is(4), 101);
        D.due("rung(-1)", x.rung(-1), 0);
        D.due("heard(-1)", x.heard(-1), 0);
        D.due("book(-1, 0)", x.book(-1, 0), 0);
        D.due("undo()", x.undo(), -1);
        x.bell(1, 1, 1);
        x.hands(50);
        x.hour(3);
        D.due("back()", x.back(), 0);
        D.due("about(0)", x.about(0), 0);
        D.due("about(4)", x.about(4), 0);
        D.due("is(3)", x.is(3), 9);
        D.due("is(4)", x.is(4), 101);
    }

    private static void bells() {
        D.about("promise 2");
        BellTongue x = new BellTongue();
        int[][] wrong = {{0, 0, 1}, {10, 0, 1}, {1, -1, 1}, {1, 10, 1}, {1, 0, 0}, {1, 0, 10},
            {MIN, 0, 1}, {1, MAX, 1}, {1, 0, MIN}};
        for (int[] w : wrong) {
            D.due("bell(" + w[0] + ", " + w[1] + ", " + w[2] + ")", x.bell(w[0], w[1], w[2]), -1);
        }
        D.due("about(0)", x.about(0), 0);
        D.due("bell(1, 0, 1)", x.bell(1, 0, 1), 0);
        D.due("bell(9, 9, 9)", x.bell(9, 9, 9), 1);
        for (int i = 2; i < 6; i++) {
            D.due("bell(2, 3, 4)", x.bell(2, 3, 4), i);
        }
        D.due("bell(2, 3, 4), the seventh", x.bell(2, 3, 4), -1);
        D.due("about(0)", x.about(0), 6);
    }

    private static void words() {
        D.about("promise 3");
        BellTongue x = new BellTongue();
        D.due("word without BELLS", x.word(0, -1, -1, -1, 0, 0), -1);
        x.bell(1, 1, 1);
        x.bell(1, 1, 1);
        D.due("word(-1, ..)", x.word(-1, -1, -1, -1, 0, 0), -1);
        D.due("word(-1, 0, ..)", x.word(-1, 0, -1, -1, 0, 0), -1);
        D.due("word(0, -1, 0, -1, ..)", x.word(0, -1, 0, -1, 0, 0), -1);
        D.due("word(0, 0, -1, 0, ..)", x.word(0, 0, -1, 0, 0, 0), -1);
        D.due("word(0, -1, -1, 0, ..)", x.word(0, -1, -1, 0, 0, 0), -1);
        D.due("word(2, ..)", x.word(2, -1, -1, -1, 0, 0), -1);
        D.due("word(0, 2, ..)", x.word(0, 2, -1, -1, 0, 0), -1);
        D.due("word(0, 0, 0, 2, ..)", x.word(0, 0, 0, 2, 0, 0), -1);
        D.due("word(0, -2, ..)", x.word(0, -2, -1, -1, 0, 0), -1);
        D.due("word(0, 0, 0, MAX, ..)", x.word(0, 0, 0, MAX, 0, 0), -1);
        D.due("word(MIN, ..)", x.word(MIN, -1, -1, -1, 0, 0), -1);
        D.due("kind -1", x.word(0, -1, -1, -1, -1, 0), -1);
        D.due("kind 4", x.word(0, -1, -1, -1, 4, 0), -1);
        D.due("means -1", x.word(0, -1, -1, -1, 0, -1), -1);
        D.due("means 100", x.word(0, -1, -1, -1, 0, 100), -1);
        D.due("about(1)", x.about(1), 0);
        D.due("one stroke", x.word(1, -1, -1, -1, 3, 99), 0);
        D.due("four strokes", x.word(1, 0, 1, 0, 0, 0), 1);
        for (int i = 2; i < 10; i++) {
            D.due("two strokes", x.word(0, 1, -1, -1, 2, 50), i);
        }
        D.due("the eleventh", x.word(0, -1, -1, -1, 0, 0), -1);
        D.due("about(1)", x.about(1), 10);
    }

    private static void hands() {
        D.about("promise 4");
        BellTongue x = new BellTongue();
        D.due("hands(-1)", x.hands(-1), false);
        D.due("hands(100)", x.hands(100), false);
        D.due("hands(MIN)", x.hands(MIN), false);
        D.due("is(3)", x.is(3), 9);
        D.due("hands(0)", x.hands(0), true);
        D.due("is(3)", x.is(3), 0);
        D.due("hands(99)", x.hands(99), true);
        D.due("hands(99)", x.hands(99), true);
        D.due("is(3)", x.is(3), 99);
    }

    private static void ofBell() {
        D.about("promise 18");
        BellTongue x = new BellTongue();
        D.due("ofBell(0, 0)", x.ofBell(0, 0), -1);
        x.bell(3, 7, 5);
        x.bell(2, 0, 9);
        D.due("ofBell(0, 0)", x.ofBell(0, 0), 3);
        D.due("ofBell(0, 1)", x.ofBell(0, 1), 7);
        D.due("ofBell(0, 2)", x.ofBell(0, 2), 5);
        D.due("ofBell(0, 3)", x.ofBell(0, 3), 1);
        D.due("ofBell(1, 3)", x.ofBell(1, 3), 0);
        D.due("ofBell(0, 4)", x.ofBell(0, 4), -1);
        D.due("ofBell(0, -1)", x.ofBell(0, -1), -1);
        D.due("ofBell(2, 0)", x.ofBell(2, 0), -1);
        D.due("ofBell(-1, 0)", x.ofBell(-1, 0), -1);
        D.due("ofBell(MAX, MIN)", x.ofBell(MAX, MIN), -1);
        x.set(true, 1);
        D.due("ofBell(1, 3) by frost", x.ofBell(1, 3), 1);
        x.hands(0);
        D.due("ofBell(1, 3) without hands", x.ofBell(1, 3), 1);
        D.due("rung(-1)", x.rung(-1), 0);
    }

    private static void ofWord() {
        D.about("promise 19");
        BellTongue x = new BellTongue();
        x.bell(3, 7, 5);
        x.bell(2, 0, 8);
        D.due("ofWord(0, 0)", x.ofWord(0, 0), -2);
        x.word(0, 1, 0, -1, 2, 34);
        int[] want = {2, 34, 3, 8, 0, 1, 0, -1};
        for (int i = 0; i < want.length; i++) {
            D.due("ofWord(0, " + i + ")", x.ofWord(0, i), want[i]);
        }
        D.due("ofWord(0, 8)", x.ofWord(0, 8), -2);
        D.due("ofWord(0, -1)", x.ofWord(0, -1), -2);
        D.due("ofWord(1, 0)", x.ofWord(1, 0), -2);
        D.due("ofWord(-1, 0)", x.ofWord(-1, 0), -2);
        D.due("ofWord(MIN, MAX)", x.ofWord(MIN, MAX), -2);
        x.word(0, -1, -1, -1, 0, 0);
        D.due("ofWord(1, 3)", x.ofWord(1, 3), 5);
        D.due("ofWord(1, 5)", x.ofWord(1, 5), -1);
    }

    private static void is() {
        D.about("promise 20");
        BellTongue x = new BellTongue();
        x.set(false, 7);
        x.set(true, 4);
        x.hands(33);
        D.due("is(0)", x.is(0), 7);
        D.due("is(1)", x.is(1), 4);
        D.due("is(3)", x.is(3), 33);
        x.hour(2);
        D.due("is(2)", x.is(2), 2);
        // 101 > 1471 > 5507 > 24794 > 23766
        D.due("is(4)", x.is(4), 23766);
        D.due("is(5)", x.is(5), -2);
        D.due("is(-1)", x.is(-1), -2);
        D.due("is(MIN)", x.is(MIN), -2);
    }

    private static void newBells() {
        D.about("promises 40, 41");
        BellTongue x = new BellTongue();
        D.due("newBell(9)", x.newBell(9), 0);
        D.due("newBell(0)", x.newBell(0), -1);
        D.due("newBell(10)", x.newBell(10), -1);
        D.due("farthest()", x.farthest(), 10);
        x.bell(1, 0, 1);
        D.due("newBell(9)", x.newBell(9), 9);
        D.due("newBell(4)", x.newBell(4), 4);
        D.due("farthest()", x.farthest(), 9);
        x.bell(1, 5, 1);
        D.due("newBell(1)", x.newBell(1), 1);
        D.due("newBell(2)", x.newBell(2), 2);
        D.due("newBell(3)", x.newBell(3), 8);
        D.due("newBell(4)", x.newBell(4), 9);
        D.due("newBell(5)", x.newBell(5), -1);
        D.due("farthest()", x.farthest(), 4);
        D.due("newBell(-1)", x.newBell(-1), -1);
        x.bell(1, 9, 1);
        D.due("farthest()", x.farthest(), 2);
        BellTongue y = new BellTongue();
        y.bell(1, 9, 1);
        D.due("farthest() at 0", y.farthest(), 9);
        for (int p = 1; p < 9; p += 2) {
            y.bell(1, p, 1);
        }
        D.due("farthest()", y.farthest(), 1);
        D.due("newBell(1)", y.newBell(1), 0);
        D.due("newBell(2)", y.newBell(2), -1);
        D.due("about(0)", x.about(0), 3);
    }

    private static void ropes() {
        D.about("promise 42");
        BellTongue x = new BellTongue();
        D.due("ropes()", x.ropes(), 0);
        x.bell(1, 1, 9);
        x.bell(1, 1, 1);
        x.bell(1, 1, 5);
        D.due("ropes()", x.ropes(), 7);
        x.hands(5);
        D.due("ropes()", x.ropes(), 6);
        x.hands(4);
        D.due("ropes()", x.ropes(), 2);
        x.hands(0);
        D.due("ropes()", x.ropes(), 0);
    }

    private static void takes() {
        D.about("promise 44");
        BellTongue x = new BellTongue();
        D.due("takes(0)", x.takes(0), 0);
        D.due("takes(1)", x.takes(1), -1);
        x.bell(1, 1, 1);
        x.word(0, -1, -1, -1, 0, 0);
        x.word(0, 0, -1, -1, 0, 0);
        x.word(0, 0, 0, 0, 0, 0);
        int[] want = {0, 1, 2, 3, 4, 5, 6, 7};
        for (int i = 0; i < 8; i++) {
            D.due("takes(" + i + ")", x.takes(i), want[i]);
        }
        D.due("takes(8)", x.takes(8), -1);
        D.due("takes(9)", x.takes(9), -1);
        D.due("takes(-1)", x.takes(-1), -1);
        D.due("takes(MIN)", x.takes(MIN), -1);
        D.due("takes(MAX)", x.takes(MAX), -1);
    }

    private static void about() {
        D.about("promise 47");
        BellTongue x = new BellTongue();
        Due.lay(x, "begins kind = 1;");
        D.due("about(6)", x.about(6), 16);
        x.text();
        D.due("about(6)", x.about(6), 0);
        D.due("about(2)", x.about(2), 1);
        D.due("about(3)", x.about(3), -1);
        x.by(0);
        D.due("about(3)", x.about(3), 0);
        x.bell(1, 1, 1);
        x.bell(1, 1, 1);
        x.word(0, -1, -1, -1, 0, 0);
        x.line(0, 0);
        x.line(0, 0);
        x.line(0, 0);
        x.ring(0);
        x.sunday();
        int[] want = {2, 1, 1, 0, 2, 3, 0};
        for (int i = 0; i < want.length; i++) {
            D.due("about(" + i + ")", x.about(i), want[i]);
        }
        D.due("about(7)", x.about(7), -2);
        D.due("about(-1)", x.about(-1), -2);
        D.due("about(MIN)", x.about(MIN), -2);
    }
}
