/** Promises 5 to 9: the tape, TEXTS, their FAULTS, THE TEXT. */
public final class TextTest {
    private static final Due D = new Due();

    public static void main(String[] args) {
        tape();
        texts();
        faults();
        clauses();
        tokens();
        asks();
        full();
        numbers();
        open();
        least();
        by();
        D.close("TextTest");
    }

    private static void tape() {
        D.about("promises 5, 6");
        BellTongue x = new BellTongue();
        D.due("end(0)", x.end(0), 0);
        D.due("end(1)", x.end(1), -1);
        D.due("end(-1)", x.end(-1), -1);
        for (int n = 20; n <= 300; n += 20) {
            D.due("feed", x.feed(1, 2, 3, 4, 5), n);
        }
        D.due("feed beyond 300", x.feed(1, 2, 3, 4, 5), -1);
        D.due("about(6)", x.about(6), 300);
        D.due("end(301)", x.end(301), -1);
        D.due("end(300)", x.end(300), 300);
        D.due("end(281)", x.end(281), 281);
        D.due("feed beyond 300", x.feed(1, 2, 3, 4, 5), -1);
        D.due("about(6)", x.about(6), 281);
        D.due("end(280)", x.end(280), 280);
        D.due("feed", x.feed(1, 2, 3, 4, 5), 300);
        D.due("end(MIN)", x.end(Integer.MIN_VALUE), -1);
        D.due("end(MAX)", x.end(Integer.MAX_VALUE), -1);
        D.due("end(7)", x.end(7), 7);
        D.due("feed", x.feed(1, 2, 3, 4, 5), 27);
        // bytes that were taken off don't count
        Due.lay(x, "ring 12;");
        x.end(6);
        D.due("text()", x.text(), -1);
        D.due("fault(1)", x.fault(1), 6);
        Due.lay(x, "over 1<=1;");
        x.end(8);
        D.due("text()", x.text(), -1);
        D.due("fault(1)", x.fault(1), 8);
        Due.lay(x, "over 1<=1;");
        x.end(7);
        D.due("text()", x.text(), -1);
        D.due("fault(1)", x.fault(1), 7);
        Due.lay(x, "over loudest");
        x.end(9);
        D.due("text()", x.text(), -1);
        D.due("fault(1)", x.fault(1), 9);
        // "sunday;sunday;" with all of its bytes, and the end of the old tape taken off
        D.due("end(0)", x.end(0), 0);
        D.due("feed", x.feed(0x73756E64, 0x61793B73, 0x756E6461, 0x793B0000, -1), 20);
        D.due("end(14)", x.end(14), 14);
        D.due("text()", x.text(), 0);
        D.due("played(0)", x.played(0), -1);
        D.due("book(-1, 0)", x.book(-1, 0), 2);
    }

    private static void texts() {
        D.about("promise 7");
        BellTongue x = new BellTongue();
        D.due("text() of nothing", x.text(), 0);
        D.due("played(0)", x.played(0), -1);
        D.due("text() of blanks", Due.read(x, " \n \n"), 1);
        D.due("text() with a fault far behind", Due.read(x, "sunday; over 1=1; ring 6;"), -1);
        Due.lay(x, "sunday");
        D.due("text() with a fault", x.text(), -1);
        D.due("about(6): empty then", x.about(6), 0);
        D.due("text()", Due.read(x, "sunday;"), 2);
        D.due("text()", Due.read(x, "ring 0;"), 3);
        D.due("fault(0)", x.fault(0), 0);
        Due.lay(x, "sunday");
        D.due("text(), the fifth", x.text(), -1);
        D.due("about(6): the tape stays", x.about(6), 6);
        D.due("fault(0): it wasn't read", x.fault(0), 0);
        D.due("about(2)", x.about(2), 4);
        D.due("played(2)", x.played(2), -1);
        D.due("played(3)", x.played(3), 0);
        // nothing is left of a text with a fault, nor of one that an image forgot
        BellTongue y = new BellTongue();
        Due.read(y, "over 1=0; sunday; sunday; begins 1=0; ring 6;");
        D.due("text()", Due.read(y, "ring 0;"), 0);
        D.due("played(0)", y.played(0), 0);
        y.bell(9, 1, 1);
        y.word(0, -1, -1, -1, 0, 0);
        y.by(0);
        D.due("ring(0)", y.ring(0), 1);
        D.due("readings(true)", y.readings(true), 1);
        Due.read(y, "word 1 means 1:0 0 0 0 0;");
        D.due("text()", Due.read(y, "word 1 means 1:0; hour 1;"), 1);
        D.due("played(1)", y.played(1), -1);
        D.due("ofWord(1, 2)", y.ofWord(1, 2), 1);
    }

    private static void faults() {
        D.about("promise 8");
        BellTongue x = new BellTongue();
        D.due("fault(0) ahead of any", x.fault(0), -1);
        D.due("fault(1) ahead of any", x.fault(1), -1);
        Due.read(x, "sunday; ring 7;");
        D.due("fault(0)", x.fault(0), 2);
        D.due("fault(1)", x.fault(1), 13);
        D.due("fault(2)", x.fault(2), -1);
        D.due("fault(-1)", x.fault(-1), -1);
        D.due("fault(MIN)", x.fault(Integer.MIN_VALUE), -1);
        Due.read(x, "sunday;");
        D.due("fault(0)", x.fault(0), 0);
        D.due("fault(1)", x.fault(1), -1);
    }

    private static void clauses() {
        D.about("II, clauses");
        D.right("bell 1 pitch 0 men 1; bell 9 pitch 9 men 9;");
        D.right("word 0 means 0:0; word 3 means 99 : 5 5 5 5;");
        D.right("ring 0; ring 5; speak 0; speak 9; wind 0; wind 9; frost 0; frost 9;");
        D.right("hour 1; hour 60; sunday;");
        D.right("over 1=1; follows 1=1; begins 1=1;");
        D.faulty("bell 0 pitch 0 men 1;", 2, 5);
        D.faulty("bell 10 pitch 0 men 1;", 2, 5);
        D.faulty("bell 1 pitch 10 men 1;", 2, "10");
        D.faulty("bell 1 pitch 1 men 0;", 2, "0");
        D.faulty("bell 1 pitch 1 men 10;", 2, "10");
        D.faulty("word 4 means 0:0;", 2, "4");
        D.faulty("word 0 means 100:0;", 2, "100");
        D.faulty("word 0 means 1:6;", 2, "6");
        D.faulty("word 0 means 1:5 6;", 2, "6");
        D.faulty("ring 6;", 2, "6");
        D.faulty("speak 10;", 2, "10");
        D.faulty("wind 10;", 2, "10");
        D.faulty("frost 10;", 2, "10");
        D.faulty("hour 0;", 2, "0");
        D.faulty("hour 61;", 2, "61");
        D.faulty("word 0 means 1:0 0 0 0 0;", 7, 23);
        D.faulty("word 0 means 1:0 0 0 0 0 0;", 7, 23);
        D.faulty("word 0 means 1:0 0 0 0 6;", 2, "6");
        D.faulty("word 0 means 1:;", 1, ";");
        D.faulty("word 0 means 1 0;", 1, 15);
        D.faulty("word 0 : 1;", 1, ":");
        D.faulty("bell 1 pitch 1;", 1, ";");
        D.faulty("bell pitch 1 men 1;", 1, "pitch");
        D.faulty("ring;", 1, ";");
        D.faulty("ring 1 1;", 1, 7);
        D.faulty("ring 1", 1, 6);
        D.faulty("ring 1  \n", 1, 9);
        D.faulty("sunday sunday;", 1, 7);
        D.faulty(";", 1, 0);
        D.faulty("sunday;;", 1, 7);
        D.faulty("pitch 1;", 1, 0);
        D.faulty("Sunday;", 1, 0);
        D.faulty("sundays;", 1, 0);
        D.faulty("sunda;", 1, 0);
        D.faulty("over 1=1; sunday; over 1=1;", 4, "over");
        D.faulty("follows 1=1; follows 1=1;", 4, "follows");
        D.faulty("begins 1=1; begins", 4, "begins");
        String many = "sunday;".repeat(24);
        D.right(many);
        D.faulty(many + "ring 9;", 6, 168);
        D.faulty(many + "over 1=1;", 6, 168);
        D.faulty(many + ";", 1, 168);
        D.faulty(many + "men", 1, 168);
        D.faulty("over 1=1;" + "sunday;".repeat(23) + "over 1=1;", 4, 9 + 7 * 23);
    }

    private static void tokens() {
        D.about("II, tokens");
        D.right("bell3pitch1men1;word0means5:0;ring0;");
        D.right("\n\n sunday\n;");
        D.right("over 1<=1;");
        D.right("over 1 >= 1;");
        D.right("ring 00000000000000000005;");
        D.faulty("over 1< =1;", 1, "=");
        D.faulty("over 1=<1;", 1, "<");
        D.faulty("over 1<==1;", 1, 8);
        D.faulty("over 1<>1;", 1, ">");
        D.faulty("over 1=1; $", 1, "$");
        D.faulty("over $=1;", 1, "$");
        D.faulty("over 1$=1;", 1, "$");
        D.faulty("sunday\t;", 1, "\t");
        D.faulty("sunday\r\n;", 1, "\r");
        D.faulty("sunday;\u00ff", 1, 7);
        D.faulty("sunday;\u0000", 1, 7);
        D.faulty("sunday;\u0080", 1, 7);
        D.faulty("ring 1 2;", 1, "2");
        D.faulty("overloud=1;", 1, 0);
        D.faulty("over windwind=1;", 1, "windwind");
        D.faulty("over strokesx=1;", 1, "strokesx");
        D.faulty("over stroke=1;", 1, "stroke");
        D.faulty("over Loud=1;", 1, "Loud");
        // all letters make one token
        for (char c = 'a'; c <= 'z'; c++) {
            D.faulty("sunday" + c + ";", 1, 0);
            D.faulty("sunday" + Character.toUpperCase(c) + ";", 1, 0);
        }
        for (char c : "`{@[/:09".toCharArray()) {
            D.faulty("sunday" + c + ";", 1, 6);
        }
        for (int d = 0; d <= 9; d++) {
            D.faulty("over 1" + d + "234=1;", 2, 5);
        }
        D.faulty("over over=1;", 1, 5);
        D.faulty("over abcdefgh=1;", 1, "abcdefgh");
    }

    private static void asks() {
        D.about("II, asks");
        D.right("over loud>pitch or men<wind and frost=hour or strokes#bell;");
        D.right("follows kind+means*next-meaning/place^2>=0;");
        D.right("begins not not kind=means;");
        D.right("over (1+2)*3>-(-4)^2;");
        D.right("over - - -1<0;");
        D.right("over 1--1=2;");
        D.right("over ((loud))=((1));");
        D.faulty("over;", 1, ";");
        D.faulty("over loud;", 1, ";");
        D.faulty("over loud=;", 1, ";");
        D.faulty("over loud=1=1;", 1, 11);
        D.faulty("over loud=1", 1, 11);
        D.faulty("over loud=1 or;", 1, ";");
        D.faulty("over loud=1 and or", 1, "or");
        D.faulty("over loud or 1=1;", 1, "or");
        D.faulty("over loud and 1=1;", 1, "and");
        D.faulty("over (1=1);", 1, 7);
        D.faulty("over (1 or 1)=1;", 1, "or");
        D.faulty("over (1;", 1, ";");
        D.faulty("over (1=1;", 1, 7);
        D.faulty("over 1)=1;", 1, ")");
        D.faulty("over 1=1);", 1, ")");
        D.faulty("over ()=1;", 1, ")");
        D.faulty("over 1 2=1;", 1, "2");
        D.faulty("over 1 loud=1;", 1, "loud");
        D.faulty("over 1 (2)=1;", 1, "(");
        D.faulty("over 1+=1;", 1, "=");
        D.faulty("over +1=1;", 1, "+");
        D.faulty("over *1=1;", 1, "*");
        D.faulty("over 1=not 1;", 1, "not");
        D.faulty("over 1+not 1=1;", 1, "not");
        D.faulty("over 1 not=1;", 1, "not");
        D.faulty("over (not 1=1);", 1, "not");
        D.faulty("over -not 1=1;", 1, "not");
        D.faulty("over 1=1 not 1=1;", 1, 9);
        D.faulty("over ring=1;", 1, "ring");
        D.faulty("over sunday=1;", 1, "sunday");
        D.faulty("over word=1;", 1, "word");
        D.faulty("over 1=1:", 1, ":");
        D.faulty("over kind=1;", 5, "kind");
        D.faulty("over means=1;", 5, "means");
        D.faulty("over 1=next;", 5, "next");
        D.faulty("over (place)=1;", 5, "place");
        D.faulty("over -meaning=1;", 5, "meaning");
        for (String name : new String[] {"loud", "pitch", "men", "wind", "frost", "hour",
            "strokes", "bell"}) {
            D.right("over " + name + "=1;");
            D.faulty("follows " + name + "=1;", 5, name);
            D.faulty("begins 1=" + name + ";", 5, name);
        }
        for (String name : new String[] {"next", "meaning", "place"}) {
            D.right("follows " + name + "=1;");
            D.faulty("begins " + name + "=1;", 5, name);
        }
    }

    /** As many bytes and TOKENS as there may be. */
    private static void full() {
        D.about("II, 300 bytes");
        String full = "over 1" + "+1".repeat(145) + "=1;";
        D.right(full + " ".repeat(300 - full.length()));
        String law = "over 1" + "+1".repeat(145) + "=10";
        D.faulty(law, 1, law.length());
        D.faulty(" ".repeat(299) + ";", 1, 299);
        D.faulty("over 1" + "+1".repeat(147), 1, 300);
        D.faulty(";".repeat(300), 1, 0);
        // the most tokens: 300 bytes, and all but one of the name's and its blank
        String tokens = "over(1)" + "+1".repeat(143) + "<1=1;";
        D.faulty(tokens, 1, tokens.lastIndexOf("="));
        BellTongue x = new BellTongue();
        x.bell(1, 1, 1);
        D.rule(x, "over(1)" + "+1".repeat(143) + "=144 ;");
        D.due("ofBell(0, 3)", x.ofBell(0, 3), 1);
        Due.read(x, "(".repeat(300));
        D.due("fault(1)", x.fault(1), 0);
        D.rule(x, "over 1" + "+1".repeat(144) + "#146;");
        D.due("ofBell(0, 3)", x.ofBell(0, 3), 1);
    }

    private static void numbers() {
        D.about("II, numbers");
        D.right("over 9999=0;");
        D.faulty("over 10000=0;", 2, "10000");
        D.faulty("over 1=4294967297;", 2, "4294967297");
        D.faulty("over 1=" + "9".repeat(200) + ";", 2, 7);
        D.faulty("ring 4294967296;", 2, 5);
        D.faulty("over 1 10000=1;", 1, "10000");
        D.faulty("sunday 10000;", 1, "10000");
    }

    private static void open() {
        D.about("II, what is open");
        D.right("over ((((((((1))))))))=1;");
        D.faulty("over (((((((((1)))))))))=1;", 3, 13);
        D.right("over --------1=1;");
        D.faulty("over ---------1=1;", 3, 13);
        D.right("over " + "not ".repeat(8) + "1=1;");
        D.faulty("over " + "not ".repeat(9) + "1=1;", 3, 5 + 32);
        D.right("over 1^1^1^1^1^1^1^1^1=1;");
        D.faulty("over 1^1^1^1^1^1^1^1^1^1=1;", 3, 22);
        D.faulty("over not not -(-(1^(1^(1+1))))=1;", 3, 21);
        D.right("over not not -(-(1^(1)))=1;");
        D.right("over not -(-(1^(1^1)))=1;");
        D.faulty("over not -(-(1^(1^(1))))=1;", 3, 18);
        // those that are over are open no more
        D.right("over ((((((((1))))))))+((((((((1))))))))=1;");
        D.right("over 1^1^1^1^1^1^1^1^1*1^1^1^1^1^1^1^1^1=1;");
        D.right("over --------1^1^1^1^1^1^1^1^1=1;");
        D.right("over " + "not ".repeat(8) + "1=1 and " + "not ".repeat(8) + "1=1;");
        D.right("over " + "not ".repeat(8) + "1=1 or --------1=1;");
        D.faulty("over " + "not ".repeat(8) + "1=-1;", 3, "-");
        D.faulty("over " + "not ".repeat(8) + "1^1=1;", 3, "^");
        D.right("over (((((((1^1)))))))^1^1^1^1^1^1^1^1=1;");
        D.faulty("over 1^(-(1^1)^1^1^-(-(1)))=1;", 3, "(");
        D.right("over 1^(-(1^1)^1^1^-(-1))=1;");
    }

    private static void least() {
        D.about("II, of one the least");
        D.faulty("over ((((((((1(=1;", 1, 14);
        D.faulty("over not not not not not not not not 1=not 1=1;", 1, "not");
        D.faulty("ring 6; over kind=1;", 2, "6");
        D.faulty("over kind=1; ring 6;", 5, "kind");
    }

    private static void by() {
        D.about("promise 9");
        BellTongue x = new BellTongue();
        D.due("by(0)", x.by(0), false);
        D.due("by(-1)", x.by(-1), true);
        D.due("by(-2)", x.by(-2), false);
        Due.read(x, "over 1=0;");
        x.bell(9, 1, 1);
        D.due("ofBell(0, 3)", x.ofBell(0, 3), 1);
        D.due("by(1)", x.by(1), false);
        D.due("by(0)", x.by(0), true);
        D.due("about(3)", x.about(3), 0);
        D.due("ofBell(0, 3)", x.ofBell(0, 3), 0);
        D.due("by(MAX)", x.by(Integer.MAX_VALUE), false);
        D.due("by(MIN)", x.by(Integer.MIN_VALUE), false);
        D.due("about(3)", x.about(3), 0);
        D.due("by(-1)", x.by(-1), true);
        D.due("about(3)", x.about(3), -1);
        D.due("ofBell(0, 3)", x.ofBell(0, 3), 1);
        D.due("about(4)", x.about(4), 0);
    }
}
