/** Edges of promises 5 to 9, and of II: the tape, TOKENS, CLAUSES, FAULTS, THE TEXT. */
final class EdgesOfTexts {
    private static final int MIN = Integer.MIN_VALUE;
    private static final int MAX = Integer.MAX_VALUE;

    private EdgesOfTexts() {
    }

    // ---- promise 5 ----

    @Holds(promise = 5, says = "Twenty bytes come behind the tape, the highest of a first: "
        + "how many it has.")
    static void twentyBytesInTheirOrder(Due d) {
        BellTongue x = new BellTongue();
        // "ring 1;ring 2;ring 3;" but its last byte, which the next call brings
        d.due("feed", x.feed(0x72696E67, 0x20313B72, 0x696E6720, 0x323B7269, 0x6E672033), 20);
        d.due("feed", x.feed(0x3B000000, 0, 0, 0, 0), 40);
        d.due("end(21)", x.end(21), 21);
        d.due("text()", x.text(), 0);
        for (int i = 0; i < 4; i++) {
            x.bell(9, i, 1);
        }
        d.due("played(0)", x.played(0), -1);
        for (int i = 0; i < 3; i++) {
            d.due("heard(" + i + ")", x.heard(i), i + 1);
        }
    }

    @Holds(promise = 5, says = "NONE, and none come, if there would be more than 300.")
    static void theTapeIsFull(Due d) {
        BellTongue x = new BellTongue();
        for (int n = 20; n <= 300; n += 20) {
            d.due("feed", x.feed(-1, -1, -1, -1, -1), n);
        }
        d.due("feed: there are 300", x.feed(0, 0, 0, 0, 0), -1);
        d.due("about(6)", x.about(6), 300);
        x.end(281);
        d.due("feed: there would be 301", x.feed(0, 0, 0, 0, 0), -1);
        d.due("about(6): none come", x.about(6), 281);
        x.end(280);
        d.due("feed: just 300", x.feed(0, 0, 0, 0, 0), 300);
    }

    // ---- promise 6 ----

    @Holds(promise = 6, says = "The tape has its first n bytes alone: n.")
    static void firstBytesAlone(Due d) {
        BellTongue x = new BellTongue();
        d.due("end(0) of an empty tape", x.end(0), 0);
        Due.lay(x, "sunday;ring");
        d.due("end(11): all of them", x.end(11), 11);
        d.due("end(7)", x.end(7), 7);
        d.due("about(6)", x.about(6), 7);
        d.due("text()", x.text(), 0);
        Due.lay(x, "ring 1");
        d.due("end(0)", x.end(0), 0);
        d.due("text() of nothing", x.text(), 1);
        Due.lay(x, "over 1<=1;");
        d.due("end(7)", x.end(7), 7);
        x.text();
        d.due("fault(1): the = is not there", x.fault(1), 7);
        Due.lay(x, "over 1=12;");
        x.end(8);
        Due.add(x, ";");
        x.text();
        x.by(2);
        x.bell(1, 1, 1);
        d.due("ofBell(0, 3): the 2 is not there", x.ofBell(0, 3), 1);
    }

    @Holds(promise = 6, says = "NONE, and nothing is done, if it has not so many, or n is below 0.")
    static void noSuchEnd(Due d) {
        BellTongue x = new BellTongue();
        d.due("end(1) of an empty tape", x.end(1), -1);
        Due.lay(x, "sunday;");
        for (int n : new int[] {8, -1, 300, 301, MIN, MAX}) {
            d.due("end(" + n + ")", x.end(n), -1);
            d.due("about(6)", x.about(6), 7);
        }
        d.due("text()", x.text(), 0);
    }

    // ---- promise 7 ----

    @Holds(promise = 7, says = {"TEXTS 0 .. 3: of up to 300 bytes.",
        "The tape (empty then) is a TEXT: its number."})
    static void fourTextsOfAnyLength(Due d) {
        BellTongue x = new BellTongue();
        d.due("text() of no byte", x.text(), 0);
        String full = "sunday;" + " ".repeat(292) + "\n";
        Due.lay(x, full);
        d.due("about(6)", x.about(6), 300);
        d.due("text() of 300 bytes", x.text(), 1);
        d.due("about(6): empty then", x.about(6), 0);
        d.due("text() of a blank", Due.read(x, " "), 2);
        d.due("text()", Due.read(x, "hour 1;"), 3);
        d.due("about(2)", x.about(2), 4);
        d.due("played(1)", x.played(1), -1);
        d.due("book(-1, 0)", x.book(-1, 0), 1);
        d.due("played(0)", x.played(0), -1);
        d.due("played(3)", x.played(3), -1);
        d.due("is(2)", x.is(2), 1);
    }

    @Holds(promise = 7, says = "of up to 300 bytes.")
    static void threeHundredTokens(Due d) {
        d.faulty(";".repeat(300), 1, 0);
        d.faulty("over 1" + "+1".repeat(147), 1, 300);
        d.faulty(" ".repeat(299) + ";", 1, 299);
        BellTongue x = Scene.bells(1);
        d.rule(x, "over(1)" + "+1".repeat(144) + "=145" + ";");
        d.due("ofBell(0, 3) by a law of 300 bytes", x.ofBell(0, 3), 1);
    }

    @Holds(promise = 7, says = "NONE: it has a FAULT;")
    static void nothingIsLeftOfAFault(Due d) {
        BellTongue x = Scene.bells(1);
        String[] spoilt = {"over not not not not not not not not 1=1 and", "over ((((((((1",
            "over 1^1^1^1^1^1^1^1^1+", "over --------", "over 1=1 or 2*(3+4*(5",
            "over 1=1;follows 1=0;begins 1=0;sunday;sunday;$", "over 1" + "+1".repeat(145),
            "over not 1"};
        for (String s : spoilt) {
            for (int i = 0; i < 3; i++) {
                d.due("text() of " + s, Due.read(x, s), -1);
            }
        }
        d.rule(x, "over ((((((((1))))))))" + "+1".repeat(20) + "=21 and not 1=2;");
        d.due("ofBell(0, 3)", x.ofBell(0, 3), 1);
        d.due("played(0)", x.played(0), -1);
        d.due("book(-1, 0)", x.book(-1, 0), 0);
        Scene.word(x, 0, 0, 0);
        Scene.ring(x, 0, 0);
        d.due("readings(true)", x.readings(true), 1);
        d.due("text()", Due.read(x, "over not 1=1; $"), -1);
        d.rule(x, "over 1=1;");
        d.due("ofBell(0, 3): what follows is not its own", x.ofBell(0, 3), 1);
    }

    @Holds(promise = 7, says = "NONE: it has a FAULT;")
    static void aTextWithAFault(Due d) {
        BellTongue x = new BellTongue();
        Due.lay(x, "sunday; bell 10");
        d.due("text()", x.text(), -1);
        d.due("about(2)", x.about(2), 0);
        d.due("about(6): empty, for it was read", x.about(6), 0);
        d.due("played(0)", x.played(0), -2);
        d.due("by(0)", x.by(0), false);
        d.due("text() of the next one", Due.read(x, "hour 1;"), 0);
        d.due("played(0): nothing is left of the first", x.played(0), -1);
        d.due("book(-1, 0)", x.book(-1, 0), 0);
    }

    @Holds(promise = 7, says = "or (the tape stays) there are 4.")
    static void fourTextsAreAll(Due d) {
        BellTongue x = new BellTongue();
        for (int i = 0; i < 4; i++) {
            d.due("text()", Due.read(x, "hour " + (i + 1) + ";"), i);
        }
        Due.lay(x, "sunday;");
        d.due("text(), the fifth", x.text(), -1);
        d.due("about(6): the tape stays", x.about(6), 7);
        d.due("about(2)", x.about(2), 4);
        d.due("fault(0): it was not read", x.fault(0), 0);
        d.due("played(3)", x.played(3), -1);
        d.due("is(2)", x.is(2), 4);
        x.back();
        d.due("text(), when there is room", x.text(), 0);
        d.due("played(0)", x.played(0), -1);
        d.due("book(-1, 0)", x.book(-1, 0), 1);
    }

    // ---- promise 8 ----

    @Holds(promise = 8, says = "Of the latest text that was read: 0 its FAULT (0 without), "
        + "1 its place (NONE without).")
    static void theLatestFault(Due d) {
        BellTongue x = new BellTongue();
        Due.read(x, "$");
        d.due("fault(0)", x.fault(0), 1);
        d.due("fault(1): the first byte", x.fault(1), 0);
        Due.read(x, "");
        d.due("fault(0) without", x.fault(0), 0);
        d.due("fault(1) without", x.fault(1), -1);
        Due.lay(x, "hour 61;");
        d.due("fault(0): not read yet", x.fault(0), 0);
        x.text();
        d.due("fault(0)", x.fault(0), 2);
        d.due("fault(1)", x.fault(1), 5);
        x.back();
        d.due("fault(0) behind back()", x.fault(0), 2);
    }

    @Holds(promise = 8, says = "NONE for others, and ahead of any.")
    static void noFaultToTell(Due d) {
        BellTongue x = new BellTongue();
        d.due("fault(0) ahead of any", x.fault(0), -1);
        d.due("fault(1) ahead of any", x.fault(1), -1);
        Due.read(x, "ring 6;");
        for (int what : new int[] {-1, 2, MIN, MAX}) {
            d.due("fault(" + what + ")", x.fault(what), -1);
        }
    }

    // ---- promise 9 ----

    @Holds(promise = 9, says = {"THE TEXT (told; at first none) rules.",
        "THE TEXT (NONE: none): true."})
    static void theTextRules(Due d) {
        BellTongue x = Scene.bells(9);
        d.due("about(3) at first", x.about(3), -1);
        d.due("by(-1)", x.by(-1), true);
        Due.read(x, "over 1=0;");
        d.due("ofBell(0, 3): told, but it does not rule", x.ofBell(0, 3), 1);
        d.due("by(0)", x.by(0), true);
        d.due("by(0), as it is", x.by(0), true);
        d.due("ofBell(0, 3)", x.ofBell(0, 3), 0);
        d.due("by(-1)", x.by(-1), true);
        d.due("ofBell(0, 3)", x.ofBell(0, 3), 1);
        d.due("about(4): no STEP", x.about(4), 0);
    }

    @Holds(promise = 9, says = "False for others.")
    static void noSuchTextRules(Due d) {
        BellTongue x = new BellTongue();
        d.due("by(0) without TEXTS", x.by(0), false);
        for (int i = 0; i < 4; i++) {
            d.due("by(" + i + "), not told yet", x.by(i), false);
            Due.read(x, "sunday;");
            d.due("by(" + i + ")", x.by(i), true);
        }
        for (int text : new int[] {4, -2, MIN, MAX}) {
            d.due("by(" + text + ")", x.by(text), false);
            d.due("about(3)", x.about(3), 3);
        }
    }

    // ---- II: TOKENS ----

    @Holds(promise = 7, says = "TOKENS, blanks (32, 10) aside:")
    static void blanks(Due d) {
        d.right(" \n sunday \n\n ; \n");
        d.right("\n");
        d.faulty("sun day;", 1, 0);
        d.faulty("sunday;\nhour 6 1;", 1, 15);
        for (int sign : new int[] {0, 9, 11, 13, 31, 33, 127, 128, 160, 255}) {
            d.faulty("sunday" + (char) sign + ";", 1, 6);
        }
    }

    @Holds(promise = 7, says = "letters a .. z, A .. Z one behind the other (one TOKEN),")
    static void letters(Due d) {
        d.right("sunday;");
        d.faulty("sundaya;", 1, 0);
        d.faulty("sundayz;", 1, 0);
        d.faulty("sundayA;", 1, 0);
        d.faulty("sundayZ;", 1, 0);
        d.faulty("SUNDAY;", 1, 0);
        d.faulty("sunday`;", 1, 6);
        d.faulty("sunday{;", 1, 6);
        d.faulty("sunday@;", 1, 6);
        d.faulty("sunday[;", 1, 6);
        d.faulty("over loudpitch=1;", 1, 5);
        d.faulty("over " + "x".repeat(290) + ";", 1, 5);
    }

    @Holds(promise = 7, says = "digits likewise (NUMBERS, 0 .. 9999),")
    static void digits(Due d) {
        d.right("over 0=9999;");
        d.right("over 0000000000=0000009999;");
        d.faulty("over 10000=1;", 2, 5);
        d.faulty("over 00010000=1;", 2, 5);
        d.faulty("over 4294967296=1;", 2, 5);
        d.faulty("over 18446744073709551616=1;", 2, 5);
        d.faulty("over " + "0".repeat(290) + "=", 1, 296);
        d.faulty("over " + "9".repeat(295), 2, 5);
        d.right("bell1pitch0men1;");
    }

    @Holds(promise = 7, says = "<= >= < > = # + - * / ^ ( ) : ; (the longest).")
    static void signs(Due d) {
        for (String sign : new String[] {"<=", ">=", "<", ">", "=", "#"}) {
            d.right("over 1" + sign + "1;");
        }
        for (String sign : new String[] {"+", "-", "*", "/", "^"}) {
            d.right("over 1" + sign + "1=1;");
        }
        d.right("over (1)=1; word 0 means 0:0;");
        d.faulty("over 1<=", 1, 8);
        d.faulty("over 1<", 1, 7);
        d.faulty("over 1<==1;", 1, 8);
        d.faulty("over 1>=<1;", 1, 8);
        d.faulty("over 1< =1;", 1, 8);
        d.faulty("over 1=>1;", 1, 7);
        d.faulty("over 1##1;", 1, 7);
        for (char c : "!\"$%&',.?[\\]_|~".toCharArray()) {
            d.faulty("over 1" + c + "1;", 1, 6);
        }
    }

    // ---- II: CLAUSES ----

    @Holds(promise = 7, says = "{CLAUSE}, 24 at most:")
    static void noneToTwentyFourClauses(Due d) {
        d.right("");
        d.right("sunday;");
        d.right("sunday;".repeat(24));
        d.faulty("sunday;".repeat(25), 6, 168);
        BellTongue x = new BellTongue();
        Due.read(x, "sunday;".repeat(23) + "hour 2;");
        d.due("played(0)", x.played(0), -1);
        d.due("is(2): the 24th, too", x.is(2), 2);
    }

    @Holds(promise = 7, says = "over EITHER ; or follows EITHER ; or begins EITHER ; (each once)")
    static void eachLawOnce(Due d) {
        d.right("begins 1=1; follows 1=1; over 1=1;");
        d.right("sunday; over 1=1; sunday; sunday; follows 1=1;");
        for (String law : new String[] {"over", "follows", "begins"}) {
            d.right(law + " 1=1;");
            d.faulty(law + ";", 1, law.length());
            d.faulty(law + " 1=1", 1, law.length() + 4);
            d.faulty(law, 1, law.length());
            d.faulty(law + " 1=1; sunday; " + law + " 1=1;", 4, law.length() + 14);
        }
    }

    @Holds(promise = 7, says = "or bell NUMBER pitch NUMBER men NUMBER ; (LOUD)")
    static void bellClauses(Due d) {
        String clause = "bell 3 pitch 4 men 5;";
        d.right(clause);
        for (int at : new int[] {4, 6, 12, 14, 18, 20}) {
            d.faulty(clause.substring(0, at), 1, at);
        }
        d.faulty("bell pitch 4 men 5;", 1, 5);
        d.faulty("bell 3 4 men 5;", 1, 7);
        d.faulty("bell 3 pitch men 5;", 1, 13);
        d.faulty("bell 3 pitch 4 5;", 1, 15);
        d.faulty("bell 3 pitch 4 men;", 1, 18);
        d.faulty("bell 3 pitch 4 men 5 5;", 1, 21);
        BellTongue x = new BellTongue();
        Due.read(x, clause);
        x.played(0);
        for (int i = 0; i < 3; i++) {
            d.due("ofBell(0, " + i + ")", x.ofBell(0, i), 3 + i);
        }
    }

    @Holds(promise = 7, says = "or word NUMBER means NUMBER : NUMBER {NUMBER} ; (KIND; 1 to 4 BELLS)")
    static void wordClauses(Due d) {
        d.right("word 1 means 2:0;");
        d.right("word 1 means 2:0 1;");
        d.right("word 1 means 2:0 1 2;");
        d.right("word 1 means 2:0 1 2 3;");
        d.faulty("word 1 means 2:0 1 2 3 4;", 7, 23);
        d.faulty("word 1 means 2:;", 1, 15);
        d.faulty("word 1 means 2;", 1, 14);
        d.faulty("word 1 means 2 0;", 1, 15);
        d.faulty("word 1 means :0;", 1, 13);
        d.faulty("word 1 2:0;", 1, 7);
        d.faulty("word means 2:0;", 1, 5);
        d.faulty("word 1 means 2:0 :1;", 1, 17);
        d.faulty("word 1 means 2:0", 1, 16);
        BellTongue x = Scene.bells(9, 9, 9, 9);
        Due.read(x, "word 1 means 2:3; word 3 means 99:3 2 1 0;");
        d.due("played(0)", x.played(0), -1);
        int[] want = {1, 2, 1, 1, 3, -1, -1, -1, 3, 99, 4, 1, 3, 2, 1, 0};
        for (int i = 0; i < 16; i++) {
            d.due("ofWord(" + i / 8 + ", " + i % 8 + ")", x.ofWord(i / 8, i % 8), want[i]);
        }
    }

    @Holds(promise = 7, says = "or ring NUMBER ; or speak NUMBER ; or wind NUMBER ; or frost NUMBER ;"
        + " or hour NUMBER ; or sunday ;.")
    static void clausesOfOneNumber(Due d) {
        for (String what : new String[] {"ring", "speak", "wind", "frost", "hour"}) {
            d.right(what + " 1;");
            d.faulty(what + ";", 1, what.length());
            d.faulty(what, 1, what.length());
            d.faulty(what + " 1", 1, what.length() + 2);
            d.faulty(what + " 1 1;", 1, what.length() + 3);
            d.faulty(what + " -1;", 1, what.length() + 1);
            d.faulty(what + " wind;", 1, what.length() + 1);
        }
        d.right("sunday;");
        d.faulty("sunday 1;", 1, 7);
        d.faulty("sunday", 1, 6);
        d.faulty(";", 1, 0);
        d.faulty("sunday;;", 1, 7);
    }

    // ---- FAULTS ----

    @Holds(promise = 8, says = "FAULTS, the first as TOKENS are come to, at the TOKEN's first byte "
        + "(of the end at the length), of one the least:")
    static void theFirstAndTheLeast(Due d) {
        d.faulty("hour 61; over kind=1;", 2, 5);
        d.faulty("over kind=1; hour 61;", 5, 5);
        d.faulty("hour 0061;", 2, 5);
        d.faulty("sunday  \n ", 1, 10);
        d.faulty("sunday" + " ".repeat(294), 1, 300);
        d.faulty("over 1=1", 1, 8);
        // 1 ahead of 2, of 3, of 5; 2 ahead of 7; 4 ahead of 6
        d.faulty("sunday 10000;", 1, 7);
        d.faulty("over 1 10000=1;", 1, 7);
        d.faulty("over ((((((((1(", 1, 14);
        d.faulty("over 1 kind=1;", 1, 7);
        d.faulty("word 0 means 0:0 0 0 0 6;", 2, 23);
        d.faulty("over 1=1;" + "sunday;".repeat(23) + "over", 4, 170);
        d.faulty("sunday;".repeat(24) + "$", 1, 168);
    }

    @Holds(promise = 8, says = "1 it can't stand there, or is none.")
    static void faultOne(Due d) {
        d.faulty("pitch 1;", 1, 0);
        d.faulty("1;", 1, 0);
        d.faulty("(", 1, 0);
        d.faulty("ring ring 1;", 1, 5);
        d.faulty("ring ~;", 1, 5);
        d.faulty("ring nothing;", 1, 5);
        d.faulty("over nothing=1;", 1, 5);
        d.faulty("over over=1;", 1, 5);
        d.faulty("over ;", 1, 5);
    }

    @Holds(promise = 8, says = "2 a NUMBER that isn't one of those told (above 9999; LOUD, MEN 1 .. 9,"
        + " PITCH 0 .. 9, KINDS 0 .. 3, MEANS 0 .. 99, BELLS 0 .. 5, WORDS 0 .. 9,"
        + " WIND, FROST 0 .. 9, HOURS 1 .. 60).")
    static void faultTwo(Due d) {
        numbers(d, "over ", "=1;", 0, 9999);
        numbers(d, "over 1=", ";", 0, 9999);
        numbers(d, "bell ", " pitch 1 men 1;", 1, 9);
        numbers(d, "bell 1 pitch ", " men 1;", 0, 9);
        numbers(d, "bell 1 pitch 1 men ", ";", 1, 9);
        numbers(d, "word ", " means 0:0;", 0, 3);
        numbers(d, "word 0 means ", ":0;", 0, 99);
        numbers(d, "word 0 means 0:", ";", 0, 5);
        numbers(d, "word 0 means 0:0 ", ";", 0, 5);
        numbers(d, "word 0 means 0:0 0 0 ", ";", 0, 5);
        numbers(d, "ring ", ";", 0, 5);
        numbers(d, "speak ", ";", 0, 9);
        numbers(d, "wind ", ";", 0, 9);
        numbers(d, "frost ", ";", 0, 9);
        numbers(d, "hour ", ";", 1, 60);
    }

    /** The least and the greatest are right; what is beside them has the FAULT, at the NUMBER. */
    private static void numbers(Due d, String ahead, String behind, int low, int high) {
        d.right(ahead + low + behind);
        d.right(ahead + high + behind);
        if (low > 0) {
            d.faulty(ahead + (low - 1) + behind, 2, ahead.length());
        }
        d.faulty(ahead + (high + 1) + behind, 2, ahead.length());
        d.faulty(ahead + "10000" + behind, 2, ahead.length());
        d.faulty(ahead + "4294967297" + behind, 2, ahead.length());
    }

    @Holds(promise = 8, says = "3 the 9th of ( not ^ (open till its POWER is over) and - (of one ONE)"
        + " that are open around one another (at it).")
    static void faultThree(Due d) {
        d.right("over " + "(".repeat(8) + "1" + ")".repeat(8) + "=1;");
        d.faulty("over " + "(".repeat(9) + "1" + ")".repeat(9) + "=1;", 3, 13);
        d.right("over " + "not ".repeat(8) + "1=1;");
        d.faulty("over " + "not ".repeat(9) + "1=1;", 3, 37);
        d.right("over 1" + "^1".repeat(8) + "=1;");
        d.faulty("over 1" + "^1".repeat(9) + "=1;", 3, 22);
        d.right("over " + "-".repeat(8) + "1=1;");
        d.faulty("over " + "-".repeat(9) + "1=1;", 3, 13);
        // all sorts around one another
        d.right("over not not (-(1^(-1)))=1;");
        d.faulty("over not not (-(1^(-(1))))=1;", 3, 20);
        d.faulty("over not not (-(1^(--1)))=1;", 3, 20);
        d.right("over not not (-(1^(-1^1)))=1;");
        d.faulty("over not not (-(1^((1^1))))=1;", 3, 21);
    }

    @Holds(promise = 8, says = "(open till its POWER is over)")
    static void openNoMore(Due d) {
        String powers = "1" + "^1".repeat(8);
        for (String sign : new String[] {"*", "/", "+", "-", "=", "<="}) {
            String tail = sign.endsWith("=") ? "" : "=1";
            d.right("over " + powers + sign + powers + tail + ";");
            d.right("over " + "-".repeat(8) + "1" + sign + "-".repeat(8) + "1" + tail + ";");
            d.right("over ((((((((1))))))))" + sign + "((((((((1))))))))" + tail + ";");
        }
        d.right("over " + powers + "=1 and " + powers + "=1 or " + powers + "=1;");
        d.right("over " + "not ".repeat(8) + "1=1 and " + "not ".repeat(8) + "1=1;");
        d.right("over " + "not ".repeat(8) + "1=1 or " + "not ".repeat(8) + "1=1;");
        d.faulty("over " + "not ".repeat(8) + "1=(1);", 3, 39);
        d.faulty("over not 1=1" + "^1".repeat(8) + ";", 3, 26);
        // a - is over with its ONE, ahead of the ^ behind it
        d.right("over " + "-".repeat(8) + powers + "=1;");
        d.right("over (((((((1^1)))))))^1^1^1^1^1^1^1^1=1;");
        d.faulty("over 1^(((((((1^1)))))))=1;", 3, 15);
        d.right("over 1^((((((1^1))))))^1^1^1^1^1^1^1=1;");
        d.faulty("over 1^((((((1^1))))))^1^1^1^1^1^1^1^1=1;", 3, 36);
        // the next law starts anew
        d.right("over " + powers + "=1;follows " + powers + "=1;begins " + powers + "=1;");
    }

    @Holds(promise = 8, says = "4 over, follows, begins for the second time (at it).")
    static void faultFour(Due d) {
        d.faulty("over 1=1;over 1=1;", 4, 9);
        d.faulty("follows 1=1;begins 1=1;follows", 4, 23);
        d.faulty("begins 1=1; over 1=1; begins $", 4, 22);
        d.faulty("over 1=2;sunday;\n over;", 4, 18);
        d.faulty("over 1=1; over=1;", 4, 10);
        // where it can't stand it is 1
        d.faulty("over 1=1; ring over;", 1, 15);
    }

    @Holds(promise = 8, says = "5 a NAME that isn't of that CLAUSE (at it).")
    static void faultFive(Due d) {
        String[] ofOver = {"loud", "pitch", "men", "wind", "frost", "hour", "strokes", "bell"};
        for (String name : ofOver) {
            d.faulty("follows " + name + "=1;", 5, 8);
            d.faulty("begins 1=-" + name + ";", 5, 10);
        }
        for (String name : new String[] {"kind", "means", "next", "meaning", "place"}) {
            d.faulty("over (" + name + ")=1;", 5, 6);
        }
        for (String name : new String[] {"next", "meaning", "place"}) {
            d.faulty("begins 1^" + name + "=1;", 5, 9);
        }
        // what is no NAME is 1, and so is a NAME where none can stand
        for (String word : new String[] {"word", "ring", "speak", "sunday", "follows", "x"}) {
            d.faulty("over " + word + "=1;", 1, 5);
        }
        d.faulty("over 1 kind;", 1, 7);
        d.faulty("ring loud;", 1, 5);
    }

    @Holds(promise = 8, says = "6 the 25th CLAUSE (at its first TOKEN).")
    static void faultSix(Due d) {
        String all = "sunday;".repeat(24);
        d.faulty(all + "sunday", 6, 168);
        d.faulty(all + " \n hour 61;", 6, 171);
        d.faulty(all + "over", 6, 168);
        d.right(all + "   ");
        d.faulty(all + ";", 1, 168);
        d.faulty(all + "nothing", 1, 168);
    }

    @Holds(promise = 8, says = "7 the 5th BELL of one word (at it).")
    static void faultSeven(Due d) {
        d.faulty("word 0 means 0:1 1 1 1 1;", 7, 23);
        d.faulty("word 0 means 0:1 1 1 1 5 $", 7, 23);
        d.faulty("word 0 means 0:1 1 1 1 0", 7, 23);
        d.faulty("word 0 means 0:1 1 1 1 1 1 6;", 7, 23);
        d.faulty("word 0 means 0:1 1 1 1 6 1;", 2, 23);
        d.faulty("word 0 means 0:1 1 1 6 1;", 2, 21);
        d.faulty("word 0 means 0:1 1 1 1 x;", 1, 23);
        d.right("word 0 means 0:1 1 1 1;word 0 means 0:1 1 1 1;");
    }
}
