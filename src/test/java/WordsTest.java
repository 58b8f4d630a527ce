/** Promises 28 to 31, 33 to 39: words and two valleys. */
public final class WordsTest {
    private static final Due D = new Due();
    private static final int MIN = Integer.MIN_VALUE;
    private static final int MAX = Integer.MAX_VALUE;

    public static void main(String[] args) {
        shortest();
        atWorst();
        away();
        apart();
        settles();
        lines();
        whose();
        pairs();
        towers();
        D.close("WordsTest");
    }

    private static void word(BellTongue x, int kind, int means, int... row) {
        int[] r = {-1, -1, -1, -1};
        System.arraycopy(row, 0, r, 0, row.length);
        x.word(r[0], r[1], r[2], r[3], kind, means);
    }

    private static void shortest() {
        D.about("promise 28");
        BellTongue x = new BellTongue();
        D.due("shortest(0)", x.shortest(0), -1);
        x.bell(9, 1, 9);
        x.bell(2, 2, 1);
        word(x, 0, 7, 0, 0, 0);
        word(x, 0, 7, 1);
        word(x, 0, 7, 0, 0);
        word(x, 0, 7, 0, 0);
        word(x, 0, 0, 0);
        word(x, 0, 99, 0, 1);
        D.due("shortest(7): 1 doesn't get over", x.shortest(7), 2);
        BellTongue one = new BellTongue();
        one.bell(9, 1, 1);
        word(one, 0, 5, 0);
        D.due("shortest(5) of one word", one.shortest(5), 0);
        D.due("shortest(0)", x.shortest(0), 4);
        D.due("shortest(99)", x.shortest(99), -1);
        D.due("shortest(8)", x.shortest(8), -1);
        D.due("shortest(-1)", x.shortest(-1), -1);
        D.due("shortest(100)", x.shortest(100), -1);
        D.due("shortest(MIN)", x.shortest(MIN), -1);
        x.set(false, 1);
        D.due("shortest(7)", x.shortest(7), 1);
        D.due("shortest(99)", x.shortest(99), 5);
        x.hands(0);
        D.due("shortest(0): hands aside", x.shortest(0), 4);
        x.hands(9);
        D.rule(x, "over strokes<24;");
        for (int i = 0; i < 22; i++) {
            x.ring(1);
        }
        D.due("shortest(99): two more", x.shortest(99), 5);
        x.ring(1);
        D.due("shortest(99): the second would be the 25th", x.shortest(99), -1);
        D.due("shortest(7)", x.shortest(7), 1);
        x.ring(1);
        D.due("shortest(7)", x.shortest(7), -1);
        D.rule(x, "over strokes>=24;");
        D.due("shortest(7): RUNG's room aside", x.shortest(7), 1);
        D.due("rung(-1)", x.rung(-1), 24);
    }

    private static void atWorst() {
        D.about("promise 29");
        BellTongue x = new BellTongue();
        x.bell(9, 1, 1);
        x.bell(3, 2, 1);
        x.bell(1, 2, 9);
        D.due("atWorst(0)", x.atWorst(0), -1);
        word(x, 0, 0, 0);
        word(x, 0, 0, 0, 1);
        word(x, 0, 0, 0, 1, 2);
        D.due("atWorst(0)", x.atWorst(0), 8);
        D.due("atWorst(1)", x.atWorst(1), 2);
        D.due("atWorst(2)", x.atWorst(2), 0);
        D.due("atWorst(3)", x.atWorst(3), -1);
        D.due("atWorst(-1)", x.atWorst(-1), -1);
        D.due("atWorst(MAX)", x.atWorst(MAX), -1);
        x.set(true, 4);
        D.due("atWorst(0) by frost", x.atWorst(0), 9);
        D.due("atWorst(1) by frost", x.atWorst(1), 6);
        x.hands(0);
        D.due("atWorst(2): hands aside", x.atWorst(2), 4);
        D.due("is(0)", x.is(0), 2);
        D.rule(x, "over wind#5;");
        D.due("atWorst(0): by each less wind, too", x.atWorst(0), 4);
        D.rule(x, "over wind>0;");
        D.due("atWorst(0): not without wind", x.atWorst(0), -1);
        D.rule(x, "over wind<strokes+3;");
        x.hands(9);
        x.ring(0);
        x.ring(0);
        D.due("atWorst(0): two RUNG", x.atWorst(0), 4);
        D.due("atWorst(2): the first rules", x.atWorst(2), 4);
        D.rule(x, "over wind+strokes<9;");
        D.due("atWorst(2): the third rules", x.atWorst(2), 4);
        D.due("about(4)", x.about(4), 3);
    }

    private static void away() {
        D.about("promise 30");
        BellTongue x = new BellTongue();
        for (int i = 0; i < 5; i++) {
            x.bell(9, i, 1);
        }
        word(x, 0, 0, 0, 1, 2, 3);
        word(x, 0, 0, 1, 2, 3, 0);
        word(x, 0, 0, 0);
        word(x, 0, 0, 4, 4, 4, 4);
        word(x, 0, 0, 0, 2, 3);
        word(x, 0, 0, 0, 4, 2, 3);
        word(x, 0, 0, 3, 2, 1, 0);
        int[][] want = {{0, 0, 0}, {0, 1, 2}, {0, 2, 3}, {0, 3, 4}, {0, 4, 1}, {0, 5, 1},
            {0, 6, 4}, {1, 6, 2}, {2, 3, 4}, {4, 5, 1}, {1, 4, 2}, {2, 1, 3}};
        for (int[] w : want) {
            D.due("away(" + w[0] + ", " + w[1] + ")", x.away(w[0], w[1]), w[2]);
            D.due("away(" + w[1] + ", " + w[0] + ")", x.away(w[1], w[0]), w[2]);
        }
        D.due("away(0, 7)", x.away(0, 7), -1);
        D.due("away(7, 0)", x.away(7, 0), -1);
        D.due("away(-1, 0)", x.away(-1, 0), -1);
        D.due("away(MIN, MAX)", x.away(MIN, MAX), -1);
    }

    private static void apart() {
        D.about("promise 31");
        BellTongue x = new BellTongue();
        D.due("apart(1) without words", x.apart(1), 0);
        for (int i = 0; i < 6; i++) {
            x.bell(9, i, 1);
        }
        word(x, 0, 0, 0);
        D.due("apart(4)", x.apart(4), 1);
        word(x, 0, 0, 0);
        D.due("apart(1): like words", x.apart(1), 1);
        word(x, 0, 0, 0, 1);
        word(x, 0, 0, 2, 3);
        word(x, 0, 0, 0, 1, 2, 3);
        word(x, 0, 0, 3, 2, 1, 0);
        D.due("apart(1)", x.apart(1), 0b111101);
        // 0 and 2: 1; 0 and 3: 2; 0 and 4: 3; 0 and 5: 3; 2 3: 2; 2 4: 2; 2 5: 3; 3 4: 2; 3 5: 3; 4 5: 4
        D.due("apart(2)", x.apart(2), 0b111001);
        D.due("apart(3)", x.apart(3), 0b110001);
        D.due("apart(4)", x.apart(4), 0b110000);
        D.due("apart(0)", x.apart(0), -1);
        D.due("apart(5)", x.apart(5), -1);
        D.due("apart(MIN)", x.apart(MIN), -1);
        x = new BellTongue();
        for (int i = 0; i < 6; i++) {
            x.bell(9, i, 1);
        }
        for (int i = 0; i < 10; i++) {
            word(x, 0, 0, i % 6, i / 6, i % 6, i / 6);
        }
        D.due("apart(1) of ten", x.apart(1), 1023);
    }

    private static void settles() {
        D.about("promises 33, 34");
        BellTongue x = new BellTongue();
        D.due("hears(0, 0)", x.hears(0, 0), false);
        D.due("settles(0, 0)", x.settles(0, 0), -1);
        x.bell(1, 1, 1);
        for (int i = 0; i < 10; i++) {
            word(x, 0, 0, 0);
        }
        D.due("settles(4, 0)", x.settles(4, 0), 1);
        D.due("settles(4, 1)", x.settles(4, 1), 1);
        D.due("settles(4, 2)", x.settles(4, 2), 4);
        for (int i = 0; i < 9; i++) {
            D.due("hears", x.hears(i, i + 1), true);
        }
        D.due("settles(0, 0)", x.settles(0, 0), 10);
        D.due("settles(0, 1)", x.settles(0, 1), 1);
        D.due("settles(0, 2)", x.settles(0, 2), 9);
        D.due("hears(9, 0)", x.hears(9, 0), true);
        D.due("settles(7, 0)", x.settles(7, 0), 10);
        D.due("settles(7, 1)", x.settles(7, 1), 10);
        D.due("settles(7, 2)", x.settles(7, 2), 0);
        D.due("hears(9, 6)", x.hears(9, 6), true);
        D.due("settles(0, 0)", x.settles(0, 0), 10);
        D.due("settles(0, 1)", x.settles(0, 1), 4);
        D.due("settles(0, 2)", x.settles(0, 2), 6);
        D.due("settles(8, 0)", x.settles(8, 0), 4);
        D.due("settles(8, 2)", x.settles(8, 2), 6);
        D.due("hears(3, 3)", x.hears(3, 3), true);
        D.due("settles(1, 0)", x.settles(1, 0), 3);
        D.due("settles(1, 2)", x.settles(1, 2), 3);
        D.due("settles(0, 3)", x.settles(0, 3), -1);
        D.due("settles(0, -1)", x.settles(0, -1), -1);
        D.due("settles(10, 0)", x.settles(10, 0), -1);
        D.due("settles(-1, 0)", x.settles(-1, 0), -1);
        D.due("hears(10, 0)", x.hears(10, 0), false);
        D.due("hears(0, 10)", x.hears(0, 10), false);
        D.due("hears(-1, 0)", x.hears(-1, 0), false);
        D.due("hears(0, -1)", x.hears(0, -1), false);
        D.due("hears(MIN, MAX)", x.hears(MIN, MAX), false);
    }

    private static void lines() {
        D.about("promise 35");
        BellTongue x = new BellTongue();
        D.due("line(0, 0)", x.line(0, 0), -2);
        D.due("line(-1, 0)", x.line(-1, 0), 0);
        x.bell(1, 1, 1);
        word(x, 0, 0, 0);
        word(x, 1, 0, 0);
        D.due("line(0, 2)", x.line(0, 2), -2);
        D.due("line(2, 0)", x.line(2, 0), -2);
        D.due("line(0, -1)", x.line(0, -1), -2);
        D.due("line(-2, 0)", x.line(-2, 0), -2);
        D.due("line(MIN, 0)", x.line(MIN, 0), -2);
        for (int i = 1; i <= 8; i++) {
            D.due("line(0, 1)", x.line(0, 1), i);
        }
        D.due("line(0, 1), the ninth", x.line(0, 1), -2);
        D.due("about(5)", x.about(5), 8);
        D.due("line(-1, 77)", x.line(-1, 77), 0);
        D.due("about(5)", x.about(5), 0);
        D.due("pairs()", x.pairs(), 0);
        D.due("line(1, 0)", x.line(1, 0), 1);
        D.due("pairs()", x.pairs(), 1 << 4);
    }

    private static void whose() {
        D.about("promise 36");
        BellTongue x = new BellTongue();
        D.due("whose() without texts", x.whose(), 0);
        x.bell(1, 1, 1);
        word(x, 0, 10, 0);
        word(x, 1, 20, 0);
        Due.read(x, "follows kind<next;");
        Due.read(x, "begins 1=0; over 1=0;");
        Due.read(x, "follows means=10 and meaning=20 and place=1;");
        Due.read(x, "follows place=2;");
        D.due("whose() without lines", x.whose(), 15);
        x.line(0, 1);
        D.due("whose()", x.whose(), 7);
        x.line(0, 1);
        D.due("whose()", x.whose(), 7);
        x.line(1, 0);
        D.due("whose(): all must be right", x.whose(), 2);
        x.line(-1, 0);
        x.by(3);
        D.due("whose()", x.whose(), 15);
        x.line(1, 1);
        D.due("whose()", x.whose(), 2);
        D.due("about(3)", x.about(3), 3);
    }

    private static void pairs() {
        D.about("promise 37");
        BellTongue x = new BellTongue();
        D.due("pairs()", x.pairs(), 0);
        x.bell(1, 1, 1);
        for (int kind = 0; kind < 4; kind++) {
            word(x, kind, 0, 0);
        }
        x.line(3, 3);
        D.due("pairs()", x.pairs(), 1 << 15);
        x.line(0, 0);
        x.line(0, 3);
        x.line(3, 0);
        x.line(1, 2);
        x.line(1, 2);
        D.due("pairs()", x.pairs(), 1 << 15 | 1 | 1 << 3 | 1 << 12 | 1 << 6);
    }

    private static void towers() {
        D.about("promises 38, 39");
        BellTongue x = new BellTongue();
        D.due("tower(0, 0)", x.tower(0, 0), -2);
        D.due("tower(0, -1)", x.tower(0, -1), 0);
        D.due("lies(true)", x.lies(true), 0);
        for (int i = 0; i < 3; i++) {
            x.bell(1, i, 1);
        }
        D.due("tower(-1, 0)", x.tower(-1, 0), -2);
        D.due("tower(2, 0)", x.tower(2, 0), -2);
        D.due("tower(2, -1)", x.tower(2, -1), -2);
        D.due("tower(0, 3)", x.tower(0, 3), -2);
        D.due("tower(0, -2)", x.tower(0, -2), -2);
        D.due("tower(MIN, MAX)", x.tower(MIN, MAX), -2);
        D.due("lies(false)", x.lies(false), -1);
        int[] one = {0, 1, 2, 0, 1};
        int[] other = {0, 1, 0, 1, 2, 0};
        for (int i = 0; i < one.length; i++) {
            D.due("tower(0, " + one[i] + ")", x.tower(0, one[i]), i + 1);
        }
        D.due("lies(false): the other ends sooner", x.lies(false), 0);
        D.due("lies(true)", x.lies(true), 0);
        for (int i = 0; i < other.length; i++) {
            D.due("tower(1, " + other[i] + ")", x.tower(1, other[i]), i + 1);
        }
        D.due("lies(false)", x.lies(false), 2);
        D.due("lies(true): 0 1 2 0", x.lies(true), 4);
        BellTongue y = new BellTongue();
        y.bell(1, 1, 1);
        y.bell(1, 2, 1);
        y.tower(0, 0);
        for (int i = 0; i < 5; i++) {
            y.tower(1, 1);
        }
        y.tower(1, 0);
        D.due("lies(true): far behind", y.lies(true), 1);
        y.tower(0, -1);
        D.due("lies(true): with none", y.lies(true), 0);
        D.due("lies(false): the one has none", y.lies(false), 0);
        y.tower(1, -1);
        y.tower(1, 0);
        for (int i = 0; i < 5; i++) {
            y.tower(0, 1);
        }
        y.tower(0, 0);
        D.due("lies(true): far behind", y.lies(true), 1);
        y.tower(1, 0);
        D.due("lies(true): the row is over", y.lies(true), 1);
        y.tower(0, -1);
        y.tower(0, 0);
        D.due("lies(false): the one ends sooner", y.lies(false), 1);
        y.tower(0, 0);
        y.tower(0, -1);
        y.tower(0, 0);
        D.due("lies(false): the one ends sooner now", y.lies(false), 1);
        D.due("lies(true)", y.lies(true), 1);
        D.due("tower(1, -1)", x.tower(1, -1), 0);
        for (int b : one) {
            x.tower(1, b);
        }
        D.due("lies(false)", x.lies(false), -1);
        D.due("lies(true)", x.lies(true), 5);
        D.due("tower(0, 2)", x.tower(0, 2), 6);
        D.due("lies(false): the other ends sooner", x.lies(false), 5);
        D.due("tower(0, -1)", x.tower(0, -1), 0);
        for (int i = 1; i <= 12; i++) {
            D.due("tower(0, 2)", x.tower(0, 2), i);
        }
        D.due("tower(0, 2), the 13th", x.tower(0, 2), -2);
        D.due("tower(1, 2)", x.tower(1, 2), 6);
        D.due("lies(false)", x.lies(false), 0);
        D.due("lies(true)", x.lies(true), 1);
        for (int i = 7; i <= 12; i++) {
            D.due("tower(1, 2)", x.tower(1, 2), i);
        }
        D.due("lies(true)", x.lies(true), 7);
    }
}
