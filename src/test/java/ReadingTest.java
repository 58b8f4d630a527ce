/** Promises 24 to 27, 32: READINGS of what was HEARD, what it may have meant, NEAREST. */
public final class ReadingTest {
    private static final Due D = new Due();

    public static void main(String[] args) {
        counts();
        sense();
        places();
        rowsOneBehindTheOther();
        many();
        firstReading();
        stale();
        weights();
        meant();
        meantEdges();
        nearest();
        D.close("ReadingTest");
    }

    /** Bells that are always heard, one by one. */
    private static BellTongue bells(int n) {
        BellTongue x = new BellTongue();
        for (int i = 0; i < n; i++) {
            x.bell(9, i, 1);
        }
        return x;
    }

    private static void word(BellTongue x, int kind, int means, int... row) {
        int[] r = {-1, -1, -1, -1};
        System.arraycopy(row, 0, r, 0, row.length);
        x.word(r[0], r[1], r[2], r[3], kind, means);
    }

    private static void ring(BellTongue x, int... row) {
        for (int b : row) {
            x.ring(b);
        }
    }

    private static void reads(BellTongue x, boolean sense, int... want) {
        D.due("reading(" + sense + ", -1)", x.reading(sense, -1), want.length);
        for (int i = 0; i < want.length; i++) {
            D.due("reading(" + sense + ", " + i + ")", x.reading(sense, i), want[i]);
        }
        D.due("reading(" + sense + ", " + want.length + ")", x.reading(sense, want.length), -2);
    }

    private static void counts() {
        D.about("promise 24");
        BellTongue x = bells(3);
        D.due("readings(false) of nothing", x.readings(false), 1);
        D.due("readings(true) of nothing", x.readings(true), 1);
        ring(x, 0);
        D.due("readings(false) without words", x.readings(false), 0);
        x.undo();
        word(x, 0, 0, 0);
        word(x, 0, 0, 1);
        word(x, 0, 0, 0, 1);
        word(x, 0, 0, 1, 0);
        word(x, 0, 0, 0, 1, 0, 1);
        ring(x, 0, 1, 0, 1);
        // 0 1 0 1, 0 1 2, 0 3 1, 2 0 1, 2 2, 4
        D.due("readings(false)", x.readings(false), 6);
        D.due("readings(true)", x.readings(true), 6);
        ring(x, 2);
        D.due("readings(false): 2 is in no word", x.readings(false), 0);
        D.due("about(4): nothing is changed", x.about(4), 5);
        // what didn't get over isn't read
        x = bells(1);
        x.bell(1, 5, 1);
        word(x, 0, 0, 0, 0);
        ring(x, 0, 1, 1, 0);
        D.due("readings(false)", x.readings(false), 1);
    }

    private static void sense() {
        D.about("promise 24, sense");
        BellTongue x = bells(2);
        word(x, 0, 5, 0);
        word(x, 1, 6, 0);
        word(x, 2, 7, 0, 0);
        ring(x, 0, 0, 0);
        // 8 of single words, 2 * 2 with the long one ahead or behind
        D.due("readings(false)", x.readings(false), 12);
        D.rule(x, "follows kind#next;");
        // 0 1 0, 1 0 1, and 0 2, 1 2, 2 0, 2 1
        D.due("readings(true)", x.readings(true), 6);
        D.due("readings(false)", x.readings(false), 12);
        D.rule(x, "follows kind#next; begins kind=1;");
        D.due("readings(true)", x.readings(true), 2);
        D.rule(x, "begins means=7;");
        D.due("readings(true)", x.readings(true), 2);
        D.rule(x, "begins 1=0;");
        D.due("readings(true)", x.readings(true), 0);
        x.sunday();
        D.due("readings(true) of nothing", x.readings(true), 1);
        reads(x, true);
    }

    /** What one row leaves behind must not be seen by the next. */
    private static void rowsOneBehindTheOther() {
        D.about("promise 24, row behind row");
        BellTongue x = bells(3);
        word(x, 0, 0, 0);
        word(x, 1, 0, 0, 0);
        word(x, 2, 0, 0, 0, 0);
        word(x, 3, 0, 1);
        word(x, 1, 0, 1, 2);
        D.rule(x, "follows place<3 or kind#next; begins kind<3;");
        int[][] rows = {{0, 0, 0, 0, 0}, {0}, {0, 0, 0, 1}, {0, 1, 2}, {1, 2}, {0, 0, 2}, {0, 0}};
        int[] want = {count(5), 1, 4, 1, 1, 0, 2};
        for (int i = 0; i < rows.length; i++) {
            ring(x, rows[i]);
            D.due("readings(true) of row " + i, x.readings(true), want[i]);
            x.sunday();
        }
    }

    /** Ways to part n in words of 1, 2, 3, of which from the third on no two are alike. */
    private static int count(int n) {
        return parts(n, 0, 0);
    }

    private static int parts(int n, int words, int last) {
        if (n == 0) {
            return 1;
        }
        int sum = 0;
        for (int k = 1; k <= 3 && k <= n; k++) {
            sum += words < 3 || k != last ? parts(n - k, words + 1, k) : 0;
        }
        return sum;
    }

    private static void places() {
        D.about("promise 24, place");
        BellTongue x = bells(1);
        word(x, 0, 0, 0);
        word(x, 1, 0, 0);
        word(x, 2, 0, 0, 0);
        ring(x, 0, 0, 0, 0);
        D.rule(x, "follows next=place;");
        // first any, then KIND 1, then KIND 2: 2 ways with 4 strokes: w 1 2
        D.due("readings(true)", x.readings(true), 2);
        reads(x, true, 0, 1, 2);
        D.rule(x, "follows place<3;");
        // at most 3 words: 3 single or long ones. 2 2: 1; two single and one long: 3 * 4
        D.due("readings(true)", x.readings(true), 13);
        D.rule(x, "follows place=1 and kind=2 and next=2;");
        D.due("readings(true)", x.readings(true), 1);
        reads(x, true, 2, 2);
    }

    private static void many() {
        D.about("promise 24, a million");
        BellTongue x = bells(1);
        for (int i = 0; i < 10; i++) {
            word(x, 0, i, 0);
        }
        int ways = 1;
        for (int i = 0; i < 24; i++) {
            D.due("readings(false) of " + i, x.readings(false), ways);
            x.ring(0);
            ways = Math.min(1000000, ways * 10);
        }
        D.due("readings(false)", x.readings(false), 1000000);
        D.rule(x, "follows meaning>=means;");
        // rows of 24 that don't fall, of 10: 33 over 9
        D.due("readings(true)", x.readings(true), 1000000);
        D.rule(x, "follows meaning>=means and (means+1)*(meaning+1)*0=0 and meaning-means<=1 "
                + "and meaning<2;begins means=0;");
        D.due("readings(true)", x.readings(true), 24);
        D.due("sunday()", x.sunday(), 24);
        D.due("book(0, 3)", x.book(0, 3), 24);
        x.undo();
        x.by(0);
        D.due("sunday()", x.sunday(), 1000000);
        D.due("book(0, 3)", x.book(0, 3), 1000000);
    }

    private static void firstReading() {
        D.about("promise 25");
        BellTongue x = bells(2);
        reads(x, false);
        ring(x, 0, 0, 1);
        D.due("reading(false, -1) without words", x.reading(false, -1), -2);
        D.due("reading(true, -1) without words", x.reading(true, -1), -2);
        D.due("reading(true, 0) without words", x.reading(true, 0), -2);
        word(x, 3, 0, 0);
        word(x, 2, 0, 0, 0, 1);
        word(x, 1, 0, 0, 1);
        word(x, 0, 0, 0, 0);
        reads(x, false, 0, 2);
        reads(x, true, 0, 2);
        D.rule(x, "follows kind=0;");
        reads(x, true, 1);
        reads(x, false, 0, 2);
        word(x, 0, 0, 1);
        D.rule(x, "begins kind<2;");
        reads(x, true, 3, 4);
        D.due("reading(true, -2)", x.reading(true, -2), -2);
        D.due("reading(true, 24)", x.reading(true, 24), -2);
        D.due("reading(false, MIN)", x.reading(false, Integer.MIN_VALUE), -2);
        D.due("reading(false, MAX)", x.reading(false, Integer.MAX_VALUE), -2);
        D.rule(x, "begins kind=1 and means=1;");
        D.due("reading(true, -1)", x.reading(true, -1), -2);
        D.due("reading(true, 0)", x.reading(true, 0), -2);
        reads(x, false, 0, 0, 4);
        // the lowest first word fails only far behind
        x = bells(3);
        word(x, 0, 0, 0);
        word(x, 0, 0, 0, 1);
        word(x, 0, 0, 1);
        word(x, 1, 0, 2);
        word(x, 0, 0, 1, 2);
        ring(x, 0, 1, 2);
        reads(x, true, 0, 2, 3);
        D.rule(x, "follows next=0;");
        reads(x, true, 0, 4);
        D.rule(x, "follows place=1 and meaning=0 and kind+next>0;");
        reads(x, true, 1, 3);
    }

    private static void stale() {
        D.about("promise 24, what was found by other laws and words");
        BellTongue x = bells(1);
        word(x, 0, 0, 0);
        word(x, 1, 0, 0);
        Due.read(x, "follows kind=0 and next=1;");
        Due.read(x, "follows kind=1 and next=0;");
        ring(x, 0, 0);
        x.image();
        x.by(0);
        reads(x, true, 0, 1);
        x.by(1);
        reads(x, true, 1, 0);
        x.by(-1);
        reads(x, true, 0, 0);
        x.by(0);
        x.by(0);
        reads(x, true, 0, 1);
        x.back();
        reads(x, true, 0, 0);
        x = bells(1);
        Due.read(x, "begins kind=1;");
        x.by(0);
        x.ring(0);
        x.image();
        word(x, 0, 0, 0);
        D.due("readings(true)", x.readings(true), 0);
        x.back();
        word(x, 1, 0, 0);
        D.due("readings(true) behind back()", x.readings(true), 1);
        x.back();
        Due.read(x, "begins kind=2;");
        x.by(1);
        word(x, 1, 0, 0);
        D.due("readings(true)", x.readings(true), 0);
        x.back();
        Due.read(x, "begins kind=1;");
        x.by(1);
        word(x, 1, 0, 0);
        D.due("readings(true) by another text of that number", x.readings(true), 1);
    }

    private static void weights() {
        D.about("promise 26");
        BellTongue x = bells(1);
        D.due("weight(0, 1)", x.weight(0, 1), false);
        word(x, 0, 0, 0);
        word(x, 0, 0, 0);
        D.due("weight(0, 0)", x.weight(0, 0), true);
        D.due("weight(0, 99)", x.weight(0, 99), true);
        D.due("weight(0, 100)", x.weight(0, 100), false);
        D.due("weight(0, -1)", x.weight(0, -1), false);
        D.due("weight(2, 1)", x.weight(2, 1), false);
        D.due("weight(-1, 1)", x.weight(-1, 1), false);
        D.due("weight(MIN, MIN)", x.weight(Integer.MIN_VALUE, Integer.MIN_VALUE), false);
        ring(x, 0);
        odds(x, 0, 3, 99, 100);
        odds(x, 1, 3, 1, 100);
    }

    private static void odds(BellTongue x, int word, int p, long upper, long lower) {
        D.due("meant(" + word + ", " + p + ", false)", x.meant(word, p, false), upper);
        D.due("meant(" + word + ", " + p + ", true)", x.meant(word, p, true), lower);
    }

    private static void meant() {
        D.about("promise 27");
        BellTongue x = bells(2);
        word(x, 0, 0, 0);
        word(x, 0, 0, 0, 0);
        word(x, 0, 0, 0, 1, 0, 0);
        word(x, 0, 0, 1);
        ring(x, 0);
        // p 1: 9/10; 2 * 9/100; 3 * 9/10000; 0: 9000, 1800, 27 by 10000
        odds(x, 0, 1, 1000, 1203);
        odds(x, 1, 1, 200, 1203);
        odds(x, 2, 1, 1, 401);
        odds(x, 3, 1, 0, 1);
        // p 5: 1/2, 2/4, 3/16
        odds(x, 0, 5, 8, 19);
        odds(x, 1, 5, 8, 19);
        odds(x, 2, 5, 3, 19);
        // p 0: only 0 itself
        odds(x, 0, 0, 1, 1);
        odds(x, 1, 0, 0, 1);
        // p 10: nothing gets over, so it can't be any
        odds(x, 0, 10, 0, 1);
        odds(x, 3, 10, 0, 1);
        x.weight(1, 3);
        odds(x, 1, 5, 24, 35);
        x.weight(0, 0);
        odds(x, 0, 5, 0, 1);
        odds(x, 1, 5, 8, 9);
        ring(x, 0);
        // 0 0 of 0 0: 3 * 1/4; of 0 1 0 0: 3 * 1/16
        odds(x, 1, 5, 4, 5);
        odds(x, 2, 5, 1, 5);
    }

    private static void meantEdges() {
        D.about("promise 27, edges");
        BellTongue x = bells(2);
        D.due("meant(0, 5, false)", x.meant(0, 5, false), -1);
        D.due("meant(0, 5, true)", x.meant(0, 5, true), -1);
        word(x, 0, 0, 0);
        word(x, 0, 0, 1, 1);
        // nothing HEARD: all lost
        odds(x, 0, 5, 2, 3);
        odds(x, 1, 5, 1, 3);
        odds(x, 0, 10, 1, 2);
        odds(x, 1, 10, 1, 2);
        odds(x, 0, 0, 0, 1);
        D.due("meant(0, 11, true)", x.meant(0, 11, true), -1);
        D.due("meant(0, -1, true)", x.meant(0, -1, true), -1);
        D.due("meant(2, 5, true)", x.meant(2, 5, true), -1);
        D.due("meant(-1, 5, false)", x.meant(-1, 5, false), -1);
        D.due("meant(MIN, MAX, false)", x.meant(Integer.MIN_VALUE, Integer.MAX_VALUE, false), -1);
        for (int i = 0; i < 24; i++) {
            x.ring(0);
        }
        odds(x, 0, 5, 0, 1);
        x = bells(1);
        for (int i = 0; i < 10; i++) {
            word(x, 0, 0, 0, 0, 0, 0);
            x.weight(i, 99);
        }
        ring(x, 0, 0);
        odds(x, 7, 5, 1, 10);
        ring(x, 0, 0, 0);
        odds(x, 7, 5, 0, 1);
        x = bells(4);
        word(x, 0, 0, 0, 1, 2, 3);
        word(x, 0, 0, 0, 1, 0, 1);
        word(x, 0, 0, 0, 1);
        word(x, 0, 0, 1, 0, 1, 0);
        ring(x, 0, 1);
        // by 10000 at p 1: 81; 3 * 81; 8100; 81
        odds(x, 0, 1, 1, 105);
        odds(x, 1, 1, 1, 35);
        odds(x, 2, 1, 20, 21);
        odds(x, 3, 1, 1, 105);
        ring(x, 2);
        odds(x, 0, 1, 1, 1);
        ring(x, 3);
        odds(x, 0, 4, 1, 1);
        odds(x, 1, 4, 0, 1);
        x.sunday();
        ring(x, 0, 1, 0, 1);
        odds(x, 1, 9, 1, 1);
        odds(x, 0, 9, 0, 1);
    }

    private static void nearest() {
        D.about("promise 32");
        BellTongue x = bells(3);
        D.due("nearest()", x.nearest(), 0);
        ring(x, 0);
        D.due("nearest() without words", x.nearest(), 0);
        x.undo();
        word(x, 0, 0, 0, 1, 2);
        word(x, 0, 0, 0, 1);
        word(x, 0, 0, 1, 2);
        word(x, 0, 0, 2, 2, 2, 2);
        D.due("nearest() to nothing", x.nearest(), 6);
        ring(x, 0);
        D.due("nearest() to 0", x.nearest(), 2);
        ring(x, 1);
        D.due("nearest() to 0 1", x.nearest(), 2);
        ring(x, 2);
        D.due("nearest() to 0 1 2", x.nearest(), 1);
        x.sunday();
        ring(x, 2, 1);
        // 0 1 2: 2 changed and one put in or a change less: 3 > 2; 0 1: 1; 1 2: 2
        D.due("nearest() to 2 1", x.nearest(), 2);
        x.sunday();
        for (int i = 0; i < 24; i++) {
            x.ring(1);
        }
        // 24 less a 1 that they have: 23 for all with one; without: 24
        D.due("nearest() to 24", x.nearest(), 7);
    }
}
