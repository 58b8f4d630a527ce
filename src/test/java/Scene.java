/** Objects as tests of edges find them, and what is to be seen of one. */
final class Scene {
    private Scene() {
    }

    /** BELLS as LOUD as told, of PITCHES 0, 1, 2, .., by one man each. */
    static BellTongue bells(int... loud) {
        BellTongue x = new BellTongue();
        for (int i = 0; i < loud.length; i++) {
            x.bell(loud[i], i, 1);
        }
        return x;
    }

    /** One BELL that gets over always, and as many WORDS of one STROKE of it, of KIND 0. */
    static BellTongue words(int n) {
        BellTongue x = bells(9);
        for (int i = 0; i < n; i++) {
            word(x, 0, i, 0);
        }
        return x;
    }

    static int word(BellTongue x, int kind, int means, int... row) {
        int[] r = {-1, -1, -1, -1};
        System.arraycopy(row, 0, r, 0, row.length);
        return x.word(r[0], r[1], r[2], r[3], kind, means);
    }

    static void ring(BellTongue x, int... row) {
        for (int bell : row) {
            x.ring(bell);
        }
    }

    static void ringTimes(BellTongue x, int bell, int times) {
        for (int i = 0; i < times; i++) {
            x.ring(bell);
        }
    }

    /** At most 168 calls: an object is used for 512. */
    static void passTo(BellTongue x, int hour) {
        int now = x.is(2);
        for (int i = 0; i < 167 && now < hour; i++) {
            now = x.hour(Math.min(60, hour - now));
        }
    }

    /** X behind a draw. */
    static int turned(int x) {
        return (x * 313 + 199) % 30341;
    }

    /** What a STEP can change and what is counted, so that a refused call can be seen to do nothing. */
    static String state(BellTongue x) {
        StringBuilder s = new StringBuilder();
        for (int i = 0; i < 5; i++) {
            s.append(x.is(i)).append(' ');
        }
        for (int i = 0; i < 7; i++) {
            s.append(x.about(i)).append(' ');
        }
        for (int i = -1; i < x.rung(-1); i++) {
            s.append(x.rung(i)).append(' ');
        }
        for (int i = -1; i < x.book(-1, 0); i++) {
            for (int what = 0; what < 4; what++) {
                s.append(x.book(i, what)).append(' ');
            }
        }
        return s.toString();
    }
}
