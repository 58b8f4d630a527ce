/** Edges of II, which is what THE TEXT (promise 9) rules by: what laws say, and NAMES. */
final class EdgesOfLaws {
    private EdgesOfLaws() {
    }

    /** Whether a BELL gets over by a TEXT whose over is this. */
    private static void says(Due d, String ask, boolean want) {
        BellTongue x = Scene.bells(1);
        d.rule(x, "over " + ask + ";");
        d.due("ofBell(0, 3) by over " + ask, x.ofBell(0, 3), want ? 1 : 0);
    }

    /** That a SUM is just this: neither less nor more. */
    private static void is(Due d, String sum, int value) {
        String size = Math.abs(value) / 1000 + "*1000+" + Math.abs(value) % 1000;
        String plain = value < 0 ? "-(" + size + ")" : size;
        says(d, sum + "=" + plain, true);
        says(d, sum + "<" + plain, false);
        says(d, sum + ">" + plain, false);
    }

    @Holds(promise = 9, says = "EITHER: BOTH {or BOTH}.")
    static void orJoinsWhatAndJoins(Due d) {
        says(d, "1=1", true);
        says(d, "1=2 or 1=2 or 1=1", true);
        says(d, "1=2 or 1=2 or 1=2", false);
        says(d, "1=1 or 1=1 and 1=2", true);
        says(d, "1=2 and 1=1 or 1=1", true);
        d.faulty("over 1=1 or;", 1, 11);
        d.faulty("over or 1=1;", 1, 5);
        d.faulty("over 1=1 or or 1=1;", 1, 12);
        d.faulty("over 1=1 or", 1, 11);
        d.faulty("over 1 or 1=1;", 1, 7);
    }

    @Holds(promise = 9, says = "BOTH: ASK {and ASK}.")
    static void andJoinsAsks(Due d) {
        says(d, "1=1 and 2=2 and 3=3", true);
        says(d, "1=1 and 2=2 and 3=4", false);
        says(d, "1=2 and 2=2 and 3=3", false);
        says(d, "not 1=2 and not 1=2", true);
        d.faulty("over 1=1 and;", 1, 12);
        d.faulty("over and 1=1;", 1, 5);
        d.faulty("over 1 and 1=1;", 1, 7);
        d.faulty("over (1=1) and 1=1;", 1, 7);
        d.faulty("over (1 and 1)=1;", 1, 8);
    }

    @Holds(promise = 9, says = "ASK: not ASK, or SUM one of < <= > >= = # (unlike) SUM.")
    static void asks(Due d) {
        String[] signs = {"<", "<=", ">", ">=", "=", "#"};
        String want = "100110001011010101";
        for (int i = 0; i < 18; i++) {
            says(d, (1 + i % 3) + signs[i / 3] + "2", want.charAt(i) == '1');
        }
        says(d, "-1<0", true);
        says(d, "0>-1", true);
        for (String so : new String[] {"1<2", "2<=2", "2>1", "2>=2", "2=2", "1#2"}) {
            says(d, so + " and 1=1", true);
            says(d, "not " + so + " or 1=2", false);
        }
        says(d, "not 1=1", false);
        says(d, "not not 1=1", true);
        says(d, "not not not 1=1", false);
        says(d, "not 1=2 and 1=2", false);
        says(d, "not 1=1 or 1=1", true);
        d.faulty("over not;", 1, 8);
        d.faulty("over not 1;", 1, 10);
        d.faulty("over 1;", 1, 6);
        d.faulty("over 1=;", 1, 7);
        d.faulty("over =1;", 1, 5);
        d.faulty("over 1=1=1;", 1, 8);
        d.faulty("over 1=not 1=1;", 1, 7);
        d.faulty("over (not 1)=1;", 1, 6);
        d.faulty("over -not 1=1;", 1, 6);
        d.faulty("over not (1=1);", 1, 11);
        d.faulty("over 1=1 not;", 1, 9);
    }

    @Holds(promise = 9, says = {"SUM: PRODUCT {+ or - PRODUCT}.", "From the left;"})
    static void sumsFromTheLeft(Due d) {
        is(d, "10-4-3", 3);
        is(d, "10-4+3", 9);
        is(d, "2+3*4", 14);
        is(d, "2*3-4*5", -14);
        is(d, "1--1", 2);
        d.faulty("over 1+=1;", 1, 7);
        d.faulty("over +1=1;", 1, 5);
        d.faulty("over 1++1=1;", 1, 7);
        d.faulty("over 1 1=1;", 1, 7);
    }

    @Holds(promise = 9, says = "PRODUCT: POWER {* or / POWER}.")
    static void productsFromTheLeft(Due d) {
        is(d, "20/3*2", 12);
        is(d, "20*3/2", 30);
        is(d, "100/10/5", 2);
        is(d, "2*3^2", 18);
        is(d, "2^3*2", 16);
        d.faulty("over 1*=1;", 1, 7);
        d.faulty("over *1=1;", 1, 5);
        d.faulty("over /1=1;", 1, 5);
    }

    @Holds(promise = 9, says = "POWER: ONE, or ONE ^ POWER.")
    static void powersFromTheRight(Due d) {
        is(d, "2^3^2", 512);
        is(d, "(2^3)^2", 64);
        is(d, "2^2^0^5", 2);
        is(d, "-2^2", 4);
        is(d, "-(2^2)", -4);
        is(d, "2^-1^2", 2);
        d.faulty("over 1^=1;", 1, 7);
        d.faulty("over ^1=1;", 1, 5);
        d.faulty("over 1^^1=1;", 1, 7);
        d.faulty("over 1^", 1, 7);
    }

    @Holds(promise = 9, says = "ONE: NUMBER, NAME, ( SUM ), - ONE.")
    static void ones(Due d) {
        is(d, "((7))", 7);
        is(d, "(2+3)*(4-1)", 15);
        is(d, "-7", -7);
        is(d, "--7", 7);
        is(d, "-(-(7))", 7);
        is(d, "-loud", -1);
        is(d, "-0", 0);
        d.faulty("over ()=1;", 1, 6);
        d.faulty("over (1;", 1, 7);
        d.faulty("over (1", 1, 7);
        d.faulty("over (1=1;", 1, 7);
        d.faulty("over 1)=1;", 1, 6);
        d.faulty("over 1=1);", 1, 8);
        d.faulty("over -=1;", 1, 6);
        d.faulty("over (-)=1;", 1, 7);
        d.faulty("over 1(2)=1;", 1, 6);
    }

    @Holds(promise = 9, says = "NAMES: loud, pitch, men, wind, frost, hour, "
        + "strokes (RUNG ahead of it), bell (its number) in over;")
    static void namesOfOver(Due d) {
        String[] names = {"loud", "pitch", "men", "wind", "frost", "hour", "strokes", "bell"};
        int[] least = {1, 0, 1, 0, 0, 0, 0, 0};
        int[] most = {9, 9, 9, 9, 9, 9999, 23, 5};
        BellTongue low = new BellTongue();
        low.bell(1, 0, 1);
        low.set(false, 0);
        BellTongue high = Scene.bells(1, 1, 1, 1, 1);
        high.bell(9, 9, 9);
        Scene.passTo(high, 9999);
        high.set(false, 9);
        high.set(true, 9);
        Scene.ringTimes(high, 0, 23);
        low.image();
        high.image();
        for (int i = 0; i < names.length; i++) {
            low.back();
            d.rule(low, "over " + names[i] + "=" + least[i] + ";");
            d.due("ofBell(0, 3): the least " + names[i], low.ofBell(0, 3), 1);
            high.back();
            d.rule(high, "over " + names[i] + "=" + most[i] + ";");
            d.due("ring(5): the greatest " + names[i], high.ring(5), 1);
        }
    }

    @Holds(promise = 9, says = "kind, means in follows, begins;")
    static void namesOfBoth(Due d) {
        BellTongue x = Scene.bells(9, 9);
        Scene.word(x, 3, 99, 0);
        Scene.word(x, 0, 0, 1);
        Scene.ring(x, 0, 1, 0, 1);
        d.rule(x, "begins kind=3 and means=99; follows kind=3 and means=99 or kind=0 and means=0;");
        d.due("readings(true)", x.readings(true), 1);
        d.rule(x, "begins kind=0 or means=0;");
        d.due("readings(true): of the first one alone", x.readings(true), 0);
        d.rule(x, "follows kind=3;");
        d.due("readings(true): of each that has one behind it", x.readings(true), 0);
        x.undo();
        x.undo();
        d.due("readings(true): the last has none", x.readings(true), 1);
    }

    @Holds(promise = 9, says = "next, meaning (KIND of the WORD behind, what it means), "
        + "place (how many WORDS are ahead of that one) in follows.")
    static void namesOfFollows(Due d) {
        BellTongue x = Scene.bells(9);
        Scene.word(x, 3, 99, 0);
        Scene.ringTimes(x, 0, 24);
        d.rule(x, "follows next=3 and meaning=99 and place>0 and place<24;");
        d.due("readings(true)", x.readings(true), 1);
        d.rule(x, "follows place#23;");
        d.due("readings(true): the last has 23 ahead of it", x.readings(true), 0);
        d.rule(x, "follows place#1;");
        d.due("readings(true): the second has one", x.readings(true), 0);
        d.rule(x, "follows place#0 and place#24;");
        d.due("readings(true): of the first it isn't asked", x.readings(true), 1);
    }

    @Holds(promise = 9, says = "x ^ y: 1, y times times x (each time held as below;")
    static void powersAreHeldEachTime(Due d) {
        is(d, "0^0", 1);
        is(d, "9999^0", 1);
        is(d, "7^1", 7);
        is(d, "0^1", 0);
        is(d, "2^19", 524288);
        is(d, "2^20", 1000000);
        is(d, "1000^2", 1000000);
        is(d, "1001^2", 1000000);
        is(d, "-2^19", -524288);
        is(d, "-2^20", 1000000);
        is(d, "-2^21", -1000000);
        is(d, "-2^22", 1000000);
        is(d, "-2^23", -1000000);
        is(d, "-9999^2", 1000000);
        is(d, "-9999^3", -1000000);
        is(d, "-1001^3", -1000000);
    }

    @Holds(promise = 9, says = "y below 0: 0; above 99 as 99);")
    static void powersOfEdges(Due d) {
        is(d, "5^-1", 0);
        is(d, "1^-1", 0);
        is(d, "0^-1", 0);
        is(d, "5^-0", 1);
        is(d, "-1^98", 1);
        is(d, "-1^99", -1);
        is(d, "-1^100", -1);
        is(d, "-1^101", -1);
        is(d, "-1^9999", -1);
        is(d, "-2^98", 1000000);
        is(d, "-2^99", -1000000);
        is(d, "-2^100", -1000000);
        is(d, "1^9999", 1);
        is(d, "0^9999", 0);
        is(d, "-1^(9999*9999)", -1);
        is(d, "2^(-9999*9999)", 0);
    }

    @Holds(promise = 9, says = "/ cuts towards 0, by 0 it is 0;")
    static void divisions(Due d) {
        is(d, "7/2", 3);
        is(d, "-7/2", -3);
        is(d, "7/-2", -3);
        is(d, "-7/-2", 3);
        is(d, "1/2", 0);
        is(d, "-1/2", 0);
        is(d, "7/0", 0);
        is(d, "0/0", 0);
        is(d, "-7/0", 0);
        is(d, "7/(1-1)+5", 5);
        is(d, "9999*9999/-1", -1000000);
    }

    @Holds(promise = 9, says = "what is above 1000000 (below the same less) is that, at each step.")
    static void sumsAreHeld(Due d) {
        is(d, "1000*1000", 1000000);
        is(d, "1000*1000-1", 999999);
        is(d, "1000*1000+1-1", 999999);
        is(d, "9999*9999", 1000000);
        is(d, "9999*9999*9999*9999", 1000000);
        is(d, "9999*9999/9999", 100);
        is(d, "-1000*1000", -1000000);
        is(d, "-1000*1000-1", -1000000);
        is(d, "-1000*1000-1+1", -999999);
        is(d, "0-9999*9999-9999*9999+1", -999999);
        is(d, "-9999*9999*-9999", 1000000);
        is(d, "(9999*9999)*(9999*9999)", 1000000);
    }

    @Holds(promise = 9, says = "or and and look at both sides always.")
    static void bothSidesAreLookedAt(Due d) {
        // neither side can be left out when it is read, nor does it fail when it is asked
        d.faulty("over 1=1 or kind=1;", 5, 12);
        d.faulty("over 1=2 and kind=1;", 5, 13);
        says(d, "1=1 or 1/0=1", true);
        says(d, "1=2 and 1/0=0", false);
        says(d, "1/0=1 or 1=1", true);
    }

    @Holds(promise = 9, says = "over without: LOUD is above WIND less FROST.")
    static void overWithoutALaw(Due d) {
        int[][] cases = {{0, 0, 1}, {4, 0, 1}, {5, 0, 0}, {6, 0, 0}, {9, 4, 0}, {9, 5, 1}, {9, 9, 1},
            {0, 9, 1}};
        for (int[] c : cases) {
            BellTongue x = Scene.bells(5);
            Due.read(x, "begins 1=0; follows 1=0;");
            x.set(false, c[0]);
            x.set(true, c[1]);
            String by = " by WIND " + c[0] + ", FROST " + c[1];
            d.due("ofBell(0, 3)" + by, x.ofBell(0, 3), c[2]);
            x.by(0);
            d.due("ofBell(0, 3) by a TEXT without over" + by, x.ofBell(0, 3), c[2]);
        }
    }

    @Holds(promise = 9, says = "follows, begins without: always.")
    static void grammarWithoutALaw(Due d) {
        BellTongue x = Scene.words(2);
        Scene.ring(x, 0, 0);
        d.due("readings(true) without THE TEXT", x.readings(true), 4);
        d.rule(x, "over 1=0;");
        d.due("readings(true) by over alone", x.readings(true), 4);
        d.rule(x, "begins means=0;");
        d.due("readings(true) by begins alone", x.readings(true), 2);
        d.rule(x, "follows means=0;");
        d.due("readings(true) by follows alone", x.readings(true), 2);
    }
}
