/** What tests share: answers held against those that are due, and texts as bytes. */
final class Due {
    private int wrong = 0;
    private int asked = 0;
    private String about = "";

    /** What the next answers are about, told when one is wrong. */
    void about(String what) {
        about = what;
    }

    void due(String call, long got, long want) {
        asked++;
        if (got != want) {
            wrong++;
            System.out.println(about + ": " + call + " answered " + got + ", due is " + want);
        }
    }

    void due(String call, boolean got, boolean want) {
        due(call, got ? 1 : 0, want ? 1 : 0);
    }

    /** Ends the program with 1 if an answer was wrong. */
    void close(String name) {
        System.out.println(name + ": " + asked + " answers, " + wrong + " wrong");
        if (wrong != 0) {
            System.exit(1);
        }
    }

    /** The tape is just this text. */
    static void lay(BellTongue x, String text) {
        x.end(0);
        add(x, text);
    }

    /** The text comes behind the tape. */
    static void add(BellTongue x, String text) {
        int was = x.about(6);
        for (int from = 0; from < text.length(); from += 20) {
            int[] v = new int[5];
            for (int i = 0; i < 20 && from + i < text.length(); i++) {
                v[i / 4] |= text.charAt(from + i) << 24 - i % 4 * 8;
            }
            x.feed(v[0], v[1], v[2], v[3], v[4]);
        }
        x.end(was + text.length());
    }

    /** A text that is read: its number, or NONE. */
    static int read(BellTongue x, String text) {
        lay(x, text);
        return x.text();
    }

    /** The text is read, must be right, and rules. */
    void rule(BellTongue x, String text) {
        int n = read(x, text);
        due("text() of " + text, n >= 0, true);
        due("by(" + n + ")", x.by(n), true);
    }

    /** The text must have this FAULT, at the first byte of this part of it. */
    void faulty(String text, int fault, String at) {
        faulty(text, fault, text.lastIndexOf(at));
    }

    void faulty(String text, int fault, int place) {
        BellTongue x = new BellTongue();
        String shown = text.replace("\n", "\\n");
        due("text() of " + shown, read(x, text), -1);
        due("fault(0) of " + shown, x.fault(0), fault);
        due("fault(1) of " + shown, x.fault(1), place);
        due("about(2) behind " + shown, x.about(2), 0);
    }

    void right(String text) {
        BellTongue x = new BellTongue();
        String shown = text.replace("\n", "\\n");
        due("text() of " + shown, read(x, text), 0);
        due("fault(0) of " + shown, x.fault(0), 0);
        due("fault(1) of " + shown, x.fault(1), -1);
    }
}
