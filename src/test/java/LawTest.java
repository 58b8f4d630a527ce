/** Part II: what laws say, sum by sum. */
public final class LawTest {
    private static final Due D = new Due();

    public static void main(String[] args) {
        sums();
        powers();
        limits();
        asks();
        namesOfOver();
        namesOfGrammar();
        without();
        D.close("LawTest");
    }

    private static void says(String ask, boolean want) {
        BellTongue x = new BellTongue();
        x.bell(1, 1, 1);
        D.rule(x, "over " + ask + ";");
        D.due("ofBell(0, 3) by over " + ask, x.ofBell(0, 3), want ? 1 : 0);
    }

    /** That a SUM is just this. */
    private static void is(String sum, int value) {
        String shown = value < 0 ? "0-" + factored(-(long) value) : factored(value);
        says(sum + "=" + shown, true);
        says(sum + "#" + shown, false);
    }

    /** A NUMBER may be 9999 at most. */
    private static String factored(long value) {
        return value / 1000 + "*1000+" + value % 1000;
    }

    private static void is0(String sum, int value) {
        says(sum + "-(" + (value < 0 ? "-(" + factored(-(long) value) + ")" : factored(value))
                + ")=0", true);
    }

    private static void sums() {
        D.about("sums");
        is("10-4-3", 3);
        is("2+3*4", 14);
        is("(2+3)*4", 20);
        is("2*3+4", 10);
        is("20/3/2", 3);
        is("20/3*2", 12);
        is("7/2", 3);
        is0("-7/2", -3);
        is0("7/-2", -3);
        is0("-7/-2", 3);
        is("7/0", 0);
        is("0/0", 0);
        is0("-7/0", 0);
        is("1--1", 2);
        is0("-(2+3)", -5);
        is("---2+4", 2);
        is("2*-3+10", 4);
        is("100/(2-2)+5", 5);
    }

    private static void powers() {
        D.about("powers");
        is("2^10", 1024);
        is("2^3^2", 512);
        is("(2^3)^2", 64);
        is("-2^2", 4);
        is0("-(2^2)", -4);
        is0("-2^3", -8);
        is("2*3^2", 18);
        is("2^2*3", 12);
        is("0^0", 1);
        is("5^0", 1);
        is("0^5", 0);
        is("2^-1", 0);
        is("1^-1", 0);
        is("2^-0", 1);
        is("2^19", 524288);
        is("2^20", 1000000);
        is("2^21", 1000000);
        is("2^99", 1000000);
        is("2^100", 1000000);
        is0("-2^19", -524288);
        is0("-2^20", 1000000);
        is0("-2^21", -1000000);
        is0("-2^22", 1000000);
        is0("-2^23", -1000000);
        is0("-2^24", 1000000);
        is0("-2^98", 1000000);
        is0("-2^99", -1000000);
        is0("-2^100", -1000000);
        is0("-2^9998", -1000000);
        is0("-1^98", 1);
        is0("-1^99", -1);
        is0("-1^100", -1);
        is0("-1^21", -1);
        is0("-1^22", 1);
        is0("-1^23", -1);
        is("1^9999", 1);
        is("0^9999", 0);
        is("3^12", 531441);
        is("3^13", 1000000);
        is0("-3^13", -1000000);
        is("1000^2", 1000000);
        is("1001^2", 1000000);
        is0("-9999^3", -1000000);
        is("(2^99)^(2^99)", 1000000);
    }

    private static void limits() {
        D.about("limits");
        is("1000*1000", 1000000);
        is("1001*1000", 1000000);
        is("9999*9999", 1000000);
        is("9999*9999*9999", 1000000);
        is("1000*1000+1", 1000000);
        is("1000*1000+1-1", 999999);
        is("1000*1000-1+1", 1000000);
        is0("-1000*1000-1", -1000000);
        is0("-1000*1000-1+1", -999999);
        is0("-1000*9999", -1000000);
        is("9999*9999/9999", 100);
        is("9999*9999*(9999*9999)", 1000000);
        is0("-9999*9999*(9999*9999)", -1000000);
        is("-9999*9999*-(9999*9999)", 1000000);
    }

    private static void asks() {
        D.about("asks");
        String[] rels = {"<", "<=", ">", ">=", "=", "#"};
        boolean[][] want = {{true, false, false}, {true, true, false}, {false, false, true},
            {false, true, true}, {false, true, false}, {true, false, true}};
        for (int i = 0; i < rels.length; i++) {
            says("1" + rels[i] + "2", want[i][0]);
            says("2" + rels[i] + "2", want[i][1]);
            says("3" + rels[i] + "2", want[i][2]);
        }
        says("not 1=1", false);
        says("not not 1=1", true);
        says("not 1=2 and 1=2", false);
        says("not 1=1 or 1=1", true);
        says("1=1 or 1=1 and 1=2", true);
        says("1=2 and 1=1 or 1=1", true);
        says("1=2 and 1=2 or 1=2", false);
        says("1=2 or 1=1 and 1=1", true);
        says("1=1 and not 1=2 and 2=2", true);
        says("1=2 or 1=2 or 1=1", true);
        says("1+1=2 and 2*3>5", true);
        says("not 1+1=2 or 2*3>6", false);
        says("not 1=1 and not 1=1", false);
        says("not 1=2 and not 1=2", true);
        for (String rel : new String[] {"1<2", "2<=2", "3>2", "2>=2", "2=2", "1#2"}) {
            for (String other : new String[] {"1<2", "2<=2", "3>2", "2>=2", "2=2", "1#2"}) {
                says(rel + " and " + other, true);
                says("not " + rel + " or not " + other, false);
            }
        }
    }

    private static void namesOfOver() {
        D.about("names of over");
        BellTongue x = new BellTongue();
        x.bell(7, 3, 4);
        x.bell(6, 2, 5);
        D.rule(x, "over loud=7 and pitch=3 and men=4 and bell=0 or loud=6 and bell=1 and strokes=2;");
        D.due("ofBell(0, 3)", x.ofBell(0, 3), 1);
        D.due("ofBell(1, 3)", x.ofBell(1, 3), 0);
        D.due("ring(0)", x.ring(0), 1);
        D.due("ofBell(1, 3)", x.ofBell(1, 3), 0);
        D.due("ring(1)", x.ring(1), 0);
        D.due("ofBell(1, 3)", x.ofBell(1, 3), 1);
        D.due("ring(1)", x.ring(1), 1);
        D.due("ofBell(1, 3)", x.ofBell(1, 3), 0);
        x.sunday();
        D.rule(x, "over wind=8 and frost=6 and hour=0;");
        D.due("ofBell(0, 3)", x.ofBell(0, 3), 0);
        x.set(false, 8);
        x.set(true, 6);
        D.due("ofBell(0, 3)", x.ofBell(0, 3), 1);
        D.rule(x, "over hour*10+wind=21;");
        x.hour(1);
        D.due("ofBell(0, 3)", x.ofBell(0, 3), 0);
        x.hour(1);
        // the third draw, 5507, by 10 is 7
        D.due("is(0)", x.is(0), 7);
        x.set(false, 1);
        D.due("ofBell(0, 3)", x.ofBell(0, 3), 1);
    }

    private static void namesOfGrammar() {
        D.about("names of follows and begins");
        BellTongue x = new BellTongue();
        x.bell(9, 1, 1);
        x.bell(9, 2, 1);
        x.word(0, -1, -1, -1, 1, 20);
        x.word(1, -1, -1, -1, 2, 30);
        x.ring(0);
        x.ring(1);
        x.ring(0);
        D.rule(x, "begins kind=1 and means=20;");
        D.due("readings(true)", x.readings(true), 1);
        D.rule(x, "begins kind=2 or means=30;");
        D.due("readings(true)", x.readings(true), 0);
        D.rule(x, "follows kind*100+means=120 and next*100+meaning=230 and place=1 or "
                + "kind*100+means=230 and next*100+meaning=120 and place=2;");
        D.due("readings(true)", x.readings(true), 1);
        D.rule(x, "follows kind*100+means=120 and next*100+meaning=230 and place=1 or "
                + "kind*100+means=230 and next*100+meaning=120 and place=1;");
        D.due("readings(true)", x.readings(true), 0);
    }

    private static void without() {
        D.about("without laws");
        BellTongue x = new BellTongue();
        x.bell(4, 1, 1);
        int[][] cases = {{3, 0, 1}, {4, 0, 0}, {5, 1, 0}, {5, 2, 1}, {9, 5, 0}, {9, 6, 1}, {0, 9, 1}};
        for (int[] c : cases) {
            x.set(false, c[0]);
            x.set(true, c[1]);
            D.due("ofBell(0, 3) by wind " + c[0] + ", frost " + c[1], x.ofBell(0, 3), c[2]);
        }
        // a text without over leaves it as it is
        D.rule(x, "begins 1=1; follows 1=1; sunday;");
        x.set(false, 9);
        x.set(true, 5);
        D.due("ofBell(0, 3)", x.ofBell(0, 3), 0);
        x.set(true, 6);
        D.due("ofBell(0, 3)", x.ofBell(0, 3), 1);
        // and one without follows and begins lets all be said
        x.word(0, -1, -1, -1, 1, 1);
        x.speak(0);
        x.speak(0);
        D.rule(x, "over 1=1;");
        D.due("readings(true)", x.readings(true), 1);
    }
}
