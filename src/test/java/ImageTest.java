/** Promises 45, 46: THE IMAGE and BACK. */
public final class ImageTest {
    private static final Due D = new Due();

    public static void main(String[] args) {
        all();
        stays();
        steps();
        tapeAndFault();
        toldAgain();
        D.close("ImageTest");
    }

    private static BellTongue full() {
        BellTongue x = new BellTongue();
        x.bell(9, 1, 1);
        x.bell(9, 5, 2);
        x.word(0, 1, -1, -1, 1, 10);
        x.word(1, -1, -1, -1, 2, 20);
        x.word(0, -1, -1, -1, 0, 30);
        x.hands(7);
        Due.read(x, "over bell#1;");
        x.by(0);
        x.ring(0);
        x.sunday();
        x.hour(3);
        x.set(true, 8);
        x.ring(0);
        x.ring(1);
        x.weight(0, 3);
        x.hears(0, 1);
        x.line(0, 1);
        x.tower(0, 0);
        x.tower(1, 0);
        x.tower(1, 1);
        return x;
    }

    /** All that can be asked of it, but of the tape and the FAULT, as one text. */
    private static String portrait(BellTongue x) {
        StringBuilder s = new StringBuilder();
        for (int i = 0; i < 6; i++) {
            s.append(x.about(i)).append(' ').append(x.is(i)).append(' ');
        }
        for (int i = 0; i < 10; i++) {
            for (int j = 0; j < 8; j++) {
                s.append(x.ofBell(i, j)).append(' ').append(x.ofWord(i, j)).append(' ');
            }
            s.append(x.meant(i, 5, false)).append(' ').append(x.meant(i, 5, true)).append(' ');
            s.append(x.settles(i, 0)).append(' ').append(x.settles(i, 2)).append(' ');
        }
        for (int i = -1; i < 24; i++) {
            s.append(x.rung(i)).append(' ').append(x.heard(i)).append(' ');
            for (int j = 0; j < 4; j++) {
                s.append(x.book(i, j)).append(' ');
            }
        }
        s.append(x.readings(false)).append(' ').append(x.readings(true)).append(' ');
        s.append(x.lies(false)).append(' ').append(x.lies(true)).append(' ');
        s.append(x.pairs()).append(' ').append(x.whose()).append(' ').append(x.ropes());
        return s.toString();
    }

    private static void spoil(BellTongue x) {
        x.bell(1, 9, 9);
        x.word(1, 1, 1, 1, 3, 99);
        x.hands(99);
        Due.read(x, "over 1=0; follows 1=0; begins 1=0;");
        x.by(x.about(2) - 1);
        x.ring(1);
        x.sunday();
        x.sunday();
        x.hour(5);
        x.set(false, 9);
        x.ring(1);
        x.weight(0, 99);
        x.hears(1, 0);
        x.line(-1, 0);
        x.line(1, 0);
        x.line(1, 0);
        for (int tower = 0; tower < 2; tower++) {
            x.tower(tower, -1);
            x.tower(tower, 1);
            x.tower(tower, 1);
        }
    }

    private static void all() {
        D.about("promises 45, 46");
        BellTongue x = full();
        String before = portrait(x);
        D.due("image()", x.image(), 3);
        D.due("image() changes nothing", portrait(x).equals(before), true);
        spoil(x);
        D.due("spoilt", portrait(x).equals(before), false);
        D.due("back()", x.back(), 3);
        D.due("all is so again", portrait(x).equals(before), true);
    }

    private static void stays() {
        D.about("promise 46, it stays");
        BellTongue x = full();
        String before = portrait(x);
        x.image();
        for (int i = 0; i < 4; i++) {
            spoil(x);
            x.back();
            D.due("back() number " + i, portrait(x).equals(before), true);
        }
        spoil(x);
        String later = portrait(x);
        D.due("image()", x.image(), 8);
        spoil(x);
        D.due("back()", x.back(), 8);
        D.due("all is as at the later image", portrait(x).equals(later), true);
        BellTongue y = new BellTongue();
        String empty = portrait(y);
        spoil(y);
        y.image();
        D.due("back()", y.back(), 5);
        D.due("not the first image any more", portrait(y).equals(empty), false);
        y = full();
        D.due("back() to the first image", y.back(), 0);
        D.due("all is as in a new object", portrait(y).equals(empty), true);
    }

    private static void steps() {
        D.about("promises 45, 46, steps");
        BellTongue x = new BellTongue();
        x.bell(9, 1, 1);
        for (int i = 0; i < 12; i++) {
            x.ring(0);
        }
        x.sunday();
        x.hour(4);
        x.image();
        D.due("about(4)", x.about(4), 17);
        x.hour(60);
        x.hour(60);
        D.due("back()", x.back(), 4);
        D.due("about(4)", x.about(4), 17);
        for (int i = 16; i >= 13; i--) {
            D.due("undo()", x.undo(), i);
            D.due("is(2)", x.is(2), i - 13);
        }
        D.due("undo()", x.undo(), 12);
        D.due("rung(-1)", x.rung(-1), 12);
        D.due("undo()", x.undo(), 11);
        D.due("rung(-1)", x.rung(-1), 11);
        D.due("back()", x.back(), 4);
        D.due("about(4)", x.about(4), 17);
        D.due("undo()", x.undo(), 16);
        D.due("is(2)", x.is(2), 3);
    }

    private static void tapeAndFault() {
        D.about("promises 45, 46, the tape and the FAULT aside");
        BellTongue x = new BellTongue();
        Due.lay(x, "sunday;");
        x.image();
        Due.read(x, "ring 6;");
        Due.lay(x, "sunday;su");
        x.back();
        D.due("about(6)", x.about(6), 9);
        D.due("fault(0)", x.fault(0), 2);
        D.due("fault(1)", x.fault(1), 5);
        x.end(7);
        D.due("text()", x.text(), 0);
        D.due("fault(0)", x.fault(0), 0);
        x.back();
        D.due("about(2)", x.about(2), 0);
        D.due("fault(0)", x.fault(0), 0);
        D.due("about(6)", x.about(6), 0);
    }

    private static void toldAgain() {
        D.about("promise 46, told again");
        BellTongue x = new BellTongue();
        x.bell(9, 1, 1);
        x.word(0, -1, -1, -1, 0, 0);
        Due.read(x, "bell 1 pitch 1 men 1;");
        x.image();
        x.word(0, 0, -1, -1, 1, 1);
        x.weight(1, 50);
        x.hears(1, 0);
        Due.read(x, "ring 0;");
        x.back();
        D.due("played(1)", x.played(1), -2);
        D.due("word", x.word(0, -1, -1, -1, 2, 2), 1);
        D.due("ofWord(1, 2)", x.ofWord(1, 2), 1);
        D.due("settles(1, 2): it hears itself", x.settles(1, 2), 1);
        x.ring(0);
        D.due("meant(1, 5, true): its weight is 1", x.meant(1, 5, true), 2);
        D.due("text()", Due.read(x, "sunday; sunday;"), 1);
        D.due("played(1)", x.played(1), -1);
        D.due("book(-1, 0)", x.book(-1, 0), 2);
        D.due("played(0)", x.played(0), -1);
        D.due("about(0)", x.about(0), 2);
        D.due("by(1)", x.by(1), true);
        D.due("back()", x.back(), 0);
        D.due("about(3)", x.about(3), -1);
        D.due("by(1)", x.by(1), false);
    }
}
