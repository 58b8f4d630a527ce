/**
 * Promises 7 and 8: all texts of a few TOKENS, each TOKEN behind each row that may go on, are read
 * by the program and by the model: the same FAULTS at the same places, and, without one, the same
 * answers of the laws.
 */
public final class ShortTextsTest {
    private static final int MOST = Integer.getInteger("tokens", 6);

    private static final String OVER = "2 loud strokes kind ( ) - ^ / < # not and or ; over 99999";
    private static final String FOLLOWS = "2 kind next place loud ( ) - ^ + >= = not and or ;";
    private static final String BEGINS = "1 kind means next bell ( ) - * <= = not and or ;";
    private static final String OTHERS = "0 1 5 6 9 10 60 61 100 word means bell pitch men : ; ring"
            + " speak wind frost hour sunday loud # !";

    /** The second STROKES of WORDS. */
    private static final int[] SECOND = {-1, -1, 1, 0};

    private final Model model = new Model();
    private final Due due = new Due();
    private BellTongue program;
    private int texts = 0;

    public static void main(String[] args) {
        ShortTextsTest test = new ShortTextsTest();
        test.prepareModel();
        test.all("over", OVER.split(" "), MOST);
        test.all("follows", FOLLOWS.split(" "), MOST);
        test.all("begins", BEGINS.split(" "), MOST);
        test.all("", OTHERS.split(" "), MOST + 2);
        test.nested();
        test.due.close("ShortTextsTest");
    }

    /** Something to be read, so that answers of the laws can be told apart. */
    private void prepareModel() {
        model.bell(3, 1, 2);
        model.bell(1, 4, 9);
        for (int w = 0; w < SECOND.length; w++) {
            model.word(w % 2, SECOND[w], -1, -1, w, 1 + w % 3);
        }
        model.set(false, 0);
        for (int i = 0; i < 6; i++) {
            model.ring(i % 2);
        }
        model.line(0, 1);
        model.line(2, 3);
        model.image();
    }

    private void prepareProgram() {
        program.bell(3, 1, 2);
        program.bell(1, 4, 9);
        for (int w = 0; w < SECOND.length; w++) {
            program.word(w % 2, SECOND[w], -1, -1, w, 1 + w % 3);
        }
        program.set(false, 0);
        for (int i = 0; i < 6; i++) {
            program.ring(i % 2);
        }
        program.line(0, 1);
        program.line(2, 3);
        program.image();
    }

    /** A FAULT ahead of the end stays, whatever comes behind it: such rows don't go on. */
    private void all(String text, String[] tokens, int left) {
        read(text);
        boolean goesOn = model.fault(0) <= 0 || model.fault(1) == text.length();
        for (int i = 0; i < tokens.length && left > 0 && goesOn; i++) {
            all(text + " " + tokens[i], tokens, left - 1);
        }
    }

    /** Rows of nine or ten that open, with each one of these at each place. */
    private void nested() {
        String[] opens = {"(", "-", "2^", "2*", "(2+"};
        for (int row = 0; row < 9765625; row += 7919) {
            StringBuilder text = new StringBuilder("over not not ");
            int rest = row;
            int brackets = 0;
            for (int i = 0; i < 10; i++) {
                String open = opens[rest % 5];
                text.append(open);
                brackets += open.charAt(0) == '(' ? 1 : 0;
                rest /= 5;
            }
            text.append("1").append(")".repeat(brackets)).append(" < 3;");
            read(text.toString());
        }
    }

    private void read(String text) {
        renew();
        lay(text);
        due.about(text);
        due.due("text()", program.text(), model.text());
        due.due("fault(0)", program.fault(0), model.fault(0));
        due.due("fault(1)", program.fault(1), model.fault(1));
        if (model.fault(0) == 0) {
            due.due("by(0)", program.by(0), model.by(0));
            due.due("ofBell(0, 3)", program.ofBell(0, 3), model.ofBell(0, 3));
            due.due("ofBell(1, 3)", program.ofBell(1, 3), model.ofBell(1, 3));
            due.due("readings(true)", program.readings(true), model.readings(true));
            due.due("whose()", program.whose(), model.whose());
            due.due("played(0)", program.played(0), model.played(0));
            due.due("back()", program.back(), model.back());
        }
    }

    /** Twenty texts are well below the 512 calls that an object is good for. */
    private void renew() {
        if (texts % 20 == 0) {
            program = new BellTongue();
            prepareProgram();
        }
        texts++;
    }

    private void lay(String text) {
        program.end(0);
        model.end(0);
        for (int from = 0; from < text.length(); from += 20) {
            int[] v = new int[5];
            for (int i = 0; i < 20 && from + i < text.length(); i++) {
                v[i / 4] |= text.charAt(from + i) << 24 - i % 4 * 8;
            }
            program.feed(v[0], v[1], v[2], v[3], v[4]);
            model.feed(v[0], v[1], v[2], v[3], v[4]);
        }
        program.end(text.length());
        model.end(text.length());
    }
}
