/** The boundary cases of custom: promises 15 to 21, and what part 3 says of texts, tokens, faults and values. */
public final class CustomEdgesTest {
    private static final int NONE = Edges.NONE;
    private static final int LEAST = Edges.LEAST;
    private static final int MOST = Edges.MOST;
    private static final int HELD = 1_000_000_000;
    private static final String[] KINDS = {"", "home", "shop", "roof", "passage", "stair", "tap"};
    private static final Edges E = new Edges("edges of custom");

    public static void main(String[] args) {
        bytesOnTheTape();
        moreThanFiveHundred();
        tapeIsEmptyThen();
        emptyText();
        tooFewBytes();
        eightAreTold();
        faultTellsNothing();
        toldLast();
        latestFault();
        everyFirstByte();
        everyByteBehindAKind();
        everyByteInANumber();
        tokensAsLongAsTheyGo();
        digits();
        nineOpen();
        tenthOpen();
        shutAgain();
        moreMustCome();
        statements();
        twentyFifthStatement();
        kindsOfStatements();
        conditions();
        rules();
        noSuchRule();
        mayOrMayNot();
        toBeBuilt();
        belowAndSky();
        statementNumbers();
        noSuchMay();
        words();
        comparisons();
        held();
        division();
        payAtLeastNothing();
        payWithout();
        since();
        noSuchPay();
        paidOwners();
        paidInAll();
        E.end();
    }

    private static int faultOf(String text) {
        SixAcres s = new SixAcres();
        int told = Edges.tell(s, text);
        int fault = s.fault();
        E.due("custom and fault agree on \"" + text + "\"", told, fault == NONE ? 0 : NONE);
        return fault;
    }

    private static void fault(String text, int place) {
        E.due("\"" + text + "\"", faultOf(text), place);
    }

    private static String times(int n, String part) {
        return part.repeat(n);
    }

    private static void bytesOnTheTape() {
        E.sentence(15, "Twenty bytes come behind those on the tape, of each number the highest first: how many there are");
        SixAcres s = new SixAcres();
        E.due("the first", s.feed(0x64726177, 0x20746170, 0x20310a20, 0x20202020, 0x2020200a), 20);
        E.due("the next", s.feed(0x3b647261, 0x77207368, 0x6f702033, 0x3b202020, 0x202020ff), 40);
        E.due("as they are", s.custom(39), 0);
        E.due("draw tap", s.rule(6, 0), 1);
        E.due("draw shop", s.rule(2, 0), 3);
        E.due("numbers below 0", s.feed(-1, LEAST, MOST, -2, 0), 20);
        E.due("byte 255 begins no token", s.custom(20), NONE);
        E.due("byte 255 begins no token", s.fault(), 0);
        s.feed(0x20202020, 0x20202020, 0x20202020, 0x20202020, 0x202020ff);
        s.custom(20);
        E.due("the lowest comes last", s.fault(), 19);
        s.feed(0x20202020, 0x20202020, 0x20202020, 0x20202020, 0x80202020);
        s.custom(20);
        E.due("the highest comes first", s.fault(), 16);
    }

    private static SixAcres fullTape() {
        SixAcres s = new SixAcres();
        TextsTest.tape(s, times(23, "may tap;") + times(305, " ") + "draw tap 7;");
        return s;
    }

    private static void moreThanFiveHundred() {
        E.sentence(15, "NONE, doing nothing: there would be more than 500");
        SixAcres s = new SixAcres();
        for (int i = 1; i <= 25; i++) {
            E.due("feed " + i, s.feed(0x20202020, 0x20202020, 0x20202020, 0x20202020, 0x20202020), 20 * i);
        }
        E.due("one more", s.feed(0, 0, 0, 0, 0), NONE);
        E.due("there are", s.count(9), 500);
        E.due("none was put in", s.custom(500), 0);
        E.due("there is room again", s.feed(0, 0, 0, 0, 0), 20);
        E.due("the tape is full", fullTape().count(9), 500);
        E.refused("feed", CustomEdgesTest::fullTape, f -> f.feed(-1, -1, -1, -1, -1), NONE);
        SixAcres last = fullTape();
        E.due("all five hundred are read", last.custom(500), 0);
        E.due("to the end", last.rule(6, 0), 7);
    }

    private static void tapeIsEmptyThen() {
        E.sentence(16, "The first n bytes of the tape (which is empty then)");
        SixAcres s = new SixAcres();
        TextsTest.tape(s, "draw tap 7;draw shop 8;");
        E.due("the first 11", s.custom(11), 0);
        E.due("they count", s.rule(6, 0), 7);
        E.due("the others don't", s.rule(2, 0), 2);
        E.due("empty", s.count(9), 0);
        E.due("empty", s.custom(1), -2);
        E.due("anew from the start", s.feed(0x20202020, 0x20202020, 0x20202020, 0x20202020, 0x20202020), 20);
        E.due("nothing of the old", s.custom(20), 1);
        TextsTest.tape(s, "x");
        E.due("a fault empties it, too", s.custom(1), NONE);
        E.due("a fault empties it, too", s.count(9), 0);
    }

    private static void emptyText() {
        E.sentence(16, "n is 0: a text without a statement");
        SixAcres s = new SixAcres();
        E.due("an empty tape", s.custom(0), 0);
        E.due("no fault", s.fault(), NONE);
        TextsTest.tape(s, "?");
        E.due("none of the bytes", s.custom(0), 1);
        E.due("the tape is empty then", s.count(9), 0);
        E.due("blanks alone", Edges.tell(s, " \n \n"), 2);
        E.due("told", s.count(5), 3);
    }

    private static void tooFewBytes() {
        E.sentence(16, "-2, doing nothing: n is below 0 or more than there are");
        for (int n : new int[] {LEAST, -2, -1, 21, 22, 500, 501, MOST}) {
            E.refused("custom " + n, Edges::town, s -> s.custom(n), -2);
        }
        SixAcres s = new SixAcres();
        E.due("an empty tape", s.custom(1), -2);
        E.due("as many as there are", Edges.town().custom(20), 1);
        E.due("all but one", Edges.town().custom(19), 1);
    }

    private static SixAcres eightCustoms() {
        SixAcres s = new SixAcres();
        for (int i = 0; i < 8; i++) {
            Edges.tell(s, "may home;draw tap 5;");
        }
        TextsTest.tape(s, "draw tap 6;");
        return s;
    }

    private static void eightAreTold() {
        E.sentence(16, "-3, doing nothing: 8 are told");
        SixAcres s = new SixAcres();
        for (int i = 0; i < 8; i++) {
            E.due("custom " + i, Edges.tell(s, "draw tap " + i + ";"), i);
        }
        E.due("8", s.count(5), 8);
        E.due("empty text", s.custom(0), -3);
        E.due("the last is in force", s.rule(6, 0), 7);
        E.refused("a ninth", CustomEdgesTest::eightCustoms, f -> f.custom(11), -3);
        E.refused("one with a fault", CustomEdgesTest::eightCustoms, f -> f.custom(2), -3);
        E.refused("none of the bytes", CustomEdgesTest::eightCustoms, f -> f.custom(0), -3);
        E.refused("n below 0", CustomEdgesTest::eightCustoms, f -> f.custom(-1), -2);
        E.refused("n too high", CustomEdgesTest::eightCustoms, f -> f.custom(21), -2);
    }

    private static void faultTellsNothing() {
        E.sentence(16, "NONE: a FAULT");
        SixAcres s = new SixAcres();
        E.due("told", Edges.tell(s, "may tap;draw tap 9;pay home 4;"), 0);
        for (int i = 0; i < 10; i++) {
            E.due("a fault", Edges.tell(s, "draw tap 8;may home;pay home 5"), NONE);
        }
        E.due("none is told", s.count(5), 1);
        E.due("the old one is in force", s.rule(6, 0), 9);
        E.due("the old one is in force", s.may(0, 6), 0);
        E.due("the old one is in force", s.may(0, 1), NONE);
        s.note(3, 1, NONE, 0, 0);
        E.due("the old one is in force", s.pay(3), 4);
        E.due("the next number", Edges.tell(s, "may tap;"), 1);
        SixAcres bare = new SixAcres();
        Edges.tell(bare, "draw tap 8");
        E.due("bare still", bare.rule(6, 0), 2);
        for (int i = 0; i < 10; i++) {
            E.due("a long one with a fault", Edges.tell(bare, "pay home 1" + times(230, "+1")), NONE);
            E.due("one with open ones", Edges.tell(bare, "pay home " + times(10, "(")), NONE);
        }
        bare.note(3, 1, NONE, 0, 0);
        E.due("none of them is left", Edges.tell(bare, "pay home " + times(9, "(") + "8" + times(9, ")") + "-1;"), 0);
        E.due("none of them is left", bare.pay(3), 7);
    }

    private static void toldLast() {
        E.sentence(16, "NOW the one told last; none: bare");
        SixAcres s = Edges.block(0, 1, 0);
        Edges.tell(s, "draw tap 9;water tap 8;may shop;pay home 7;");
        Edges.tell(s, "");
        E.due("nothing of the old", s.rule(6, 0), 2);
        E.due("nothing of the old", s.rule(6, 1), 3);
        E.due("nothing of the old", s.may(0, 2), NONE);
        E.due("nothing of the old", s.pay(0), 0);
        Edges.tell(s, "may tap;may shop;");
        E.due("the new one", s.may(0, 2), 1);
        Edges.tell(s, "may home if not 1<2;");
        Edges.tell(s, "may tap;");
        E.due("nothing of the old", s.may(0, 2), NONE);
        Edges.tell(s, "may home if 1<2;");
        E.due("nothing of the old", s.may(0, 1), 0);
    }

    private static void latestFault() {
        E.sentence(17, "of the latest custom() that was a number or NONE; NONE: it had none");
        SixAcres s = new SixAcres();
        E.due("none yet", s.fault(), NONE);
        E.due("-2 tells nothing", s.custom(5), -2);
        E.due("none yet", s.fault(), NONE);
        Edges.tell(s, "may x");
        E.due("a fault", s.fault(), 4);
        s.custom(-1);
        s.custom(1);
        E.due("-2 leaves it", s.fault(), 4);
        s.feed(0, 0, 0, 0, 0);
        E.due("a feed leaves it", s.fault(), 4);
        Edges.tell(Edges.town(), "x");
        E.due("others' leave it", s.fault(), 4);
        s.custom(0);
        E.due("it had none", s.fault(), NONE);
        SixAcres full = eightCustoms();
        full.custom(2);
        E.due("-3 leaves it", full.fault(), NONE);
    }

    private static void everyFirstByte() {
        E.sentence(17, "or byte that begins none");
        for (int b = 0; b < 256; b++) {
            boolean blank = b == 32 || b == 10;
            fault("" + (char) b, blank ? NONE : 0);
            fault("may tap;" + (char) b, blank ? NONE : 8);
        }
    }

    private static void everyByteBehindAKind() {
        E.sentence(17, "between them blanks (bytes 32 and 10)");
        for (int b = 0; b < 256; b++) {
            boolean letter = b >= 'a' && b <= 'z';
            boolean blank = b == 32 || b == 10;
            fault("may home" + (char) b, b == ';' ? NONE : letter ? 4 : blank ? 9 : 8);
            fault("may" + (char) b + "home;", blank ? NONE : letter ? 0 : 3);
        }
    }

    private static void everyByteInANumber() {
        E.sentence(17, "Tokens .. words of letters a to z, digits, signs");
        for (int b = 0; b < 256; b++) {
            boolean joins = b == '+' || b == '-' || b == '*' || b == '/' || b >= '0' && b <= '9';
            boolean second = b == ';' || b == 32 || b == 10;
            fault("pay tap 1" + (char) b + "2;", joins ? NONE : second ? 10 : 9);
            boolean compares = b == '<' || b == '>' || b == '=';
            boolean goesOn = joins && (b < '0' || b > '9');
            fault("may tap if 1" + (char) b + "2;", compares ? NONE : goesOn || b >= '0' && b <= '9' ? 14
                    : b == 32 || b == 10 ? 13 : 12);
        }
    }

    private static void tokensAsLongAsTheyGo() {
        E.sentence(17, "Tokens as long as they go");
        fault("mayhome;", 0);
        fault("may homeif 1<2;", 4);
        fault("may home if1<2;", NONE);
        fault("may home if not1<2and 1<2or 2<3;", NONE);
        fault("may home if not1<2andnot 1<2;", 18);
        fault("pay home 1if 1<2;", NONE);
        fault("pay home floorif 1<2;", 9);
        fault("draw home5;", NONE);
        fault("draw5;", 4);
        fault("\n\nmay\n\nhome\n\n;\n\n", NONE);
        fault("may home if 1<=2;", 14);
        fault("may home if 1<>2;", 14);
        fault("mapy home;", 0);
        fault("m ay home;", 0);
        fault("may ho me;", 4);
    }

    private static void digits() {
        E.sentence(17, "NUMBER: one to five digits .. a NUMBER of more digits");
        String[] five = {"0", "9", "00000", "99999", "12345"};
        for (String n : five) {
            fault("draw tap " + n + ";", NONE);
            fault("pay tap 1+" + n + ";", NONE);
            fault("may tap if 1<" + n + ";", NONE);
        }
        String[] six = {"000000", "000001", "100000", "999999", "1234567890", times(40, "9")};
        for (String n : six) {
            fault("draw tap " + n + ";", 9);
            fault("water tap " + n, 10);
            fault("pay tap 1+" + n + ";", 10);
            fault("may tap if " + n + "<1;", 11);
            fault("may tap if 1<" + n + ";", 13);
        }
        fault("pay tap 12345 6;", 14);
        SixAcres s = new SixAcres();
        TextsTest.tape(s, "draw tap 123456;");
        E.due("the text ends within the digits", s.custom(14), NONE);
        E.due("so more must come", s.fault(), 14);
    }

    private static void nineOpen() {
        E.sentence(17, "\"(\", \"{\", \"not\": at most 9 open in one another");
        fault("pay tap " + times(9, "(") + "1" + times(9, ")") + ";", NONE);
        fault("may tap if " + times(9, "{") + "1<2" + times(9, "}") + ";", NONE);
        fault("may tap if " + times(9, "not ") + "1<2;", NONE);
        fault("may tap if " + times(3, "not{") + "(((1)))<2" + times(3, "}") + ";", NONE);
        fault("may tap if 1<" + times(9, "(") + "1" + times(9, ")") + ";", NONE);
        fault("pay tap 1 if " + times(4, "{not ") + "(1)<(2)" + times(4, "}") + ";", NONE);
    }

    private static void tenthOpen() {
        E.sentence(17, "the tenth open, too");
        fault("pay tap " + times(10, "(") + "1" + times(10, ")") + ";", 17);
        fault("may tap if " + times(10, "{") + "1<2" + times(10, "}") + ";", 20);
        fault("may tap if " + times(10, "not ") + "1<2;", 47);
        fault("may tap if " + times(9, "{") + "not 1<2" + times(9, "}") + ";", 20);
        fault("may tap if " + times(9, "not ") + "{1<2};", 47);
        fault("may tap if " + times(9, "not ") + "(1)<2;", 47);
        fault("may tap if " + times(9, "not ") + "1<(2);", 49);
        fault("may tap if " + times(8, "{") + "((1))<2" + times(8, "}") + ";", 20);
        fault("pay tap 1 if " + times(4, "{not ") + "((1))<2" + times(4, "}") + ";", 34);
        fault("pay tap " + times(9, "(") + "x", 17);
        fault("pay tap " + times(9, "("), 17);
        fault("pay tap " + times(9, "(") + "{", 17);
    }

    private static void shutAgain() {
        E.sentence(17, "open in one another");
        fault("pay tap " + times(30, "(1)+") + "1;", NONE);
        fault("may tap if " + times(20, "{1<2}or ") + "1<2;", NONE);
        fault("may tap if " + times(20, "not 1<2 and ") + "1<2;", NONE);
        fault("may tap if " + times(20, "not not 1<2 or ") + times(9, "{") + "1<2" + times(9, "}") + ";", NONE);
        fault("may tap if " + times(9, "{") + "1<2" + times(8, "}") + "and {1<2}};", NONE);
        fault("may tap if {" + times(8, "not ") + "1<2 and " + times(8, "not ") + "1<2};", NONE);
        fault("pay tap " + times(9, "(") + "1" + times(9, ")") + " if " + times(9, "not ") + "1<2;", NONE);
        fault("pay tap " + times(9, "(") + "1" + times(9, ")") + ";pay tap " + times(9, "(") + "1" + times(9, ")") + ";", NONE);
        fault("pay tap (1));", 11);
        fault("may tap if {1<2}};", 16);
        fault("pay tap (1};", 10);
        fault("may tap if {1<2);", 15);
    }

    private static void moreMustCome() {
        E.sentence(17, "the text's length, if more must come");
        String[] cut = {"may", "may home", "may home if", "may home if 1", "may home if 1<", "may home if 1<2", "may home if not",
            "may home if {", "may home if {1<2", "may home if {1<2}", "may home if 1<2 and", "may home if 1<2 or", "pay",
            "pay home", "pay home 1", "pay home 1+", "pay home (", "pay home (1", "pay home (1)", "pay home 1 if", "draw",
            "draw home", "draw home 1", "water", "water tap", "water tap 99999", "may tap;may", "pay home floor"};
        for (String text : cut) {
            fault(text, text.length());
            fault(text + " ", text.length() + 1);
            fault(text + "\n \n", text.length() + 3);
        }
        SixAcres s = new SixAcres();
        TextsTest.tape(s, "may home;");
        E.due("cut by n", s.custom(8), NONE);
        E.due("cut by n", s.fault(), 8);
        TextsTest.tape(s, "may home;");
        E.due("cut within a word", s.custom(6), NONE);
        E.due("cut within a word", s.fault(), 4);
        TextsTest.tape(s, "may homes;");
        E.due("a word as far as n goes", s.custom(8), NONE);
        E.due("a word as far as n goes", s.fault(), 8);
        TextsTest.tape(s, times(25, "may tap if 1<2 and  "));
        s.custom(500);
        E.due("all the tape", s.fault(), 20);
        TextsTest.tape(s, "pay tap 1" + times(245, "+1") + " ");
        s.custom(500);
        E.due("all the tape", s.fault(), 500);
    }

    private static void statements() {
        E.sentence(17, "At most 24 statements");
        fault(times(24, "may tap;"), NONE);
        fault(times(24, "may tap;") + "\n \n", NONE);
        fault(times(6, "may tap;pay tap 1;draw tap 1;water tap 1;"), NONE);
        SixAcres s = new SixAcres();
        Edges.tell(s, times(23, "draw tap 1;") + "draw tap 24;");
        E.due("the 24th counts", s.rule(6, 0), 24);
        Edges.tell(s, times(23, "may tap;") + "may home;");
        E.due("its number", s.may(0, 1), 23);
        Edges.tell(s, times(24, "may tap;"));
        E.due("anew with each text", s.fault(), NONE);
    }

    private static void twentyFifthStatement() {
        E.sentence(17, "the 25th statement: where it begins");
        fault(times(25, "may tap;"), 192);
        fault(times(24, "may tap;") + "  \nmay tap;", 195);
        fault(times(24, "may tap;") + " may", 193);
        fault(times(24, "may tap;") + "draw x", 192);
        fault(times(24, "may tap;") + ";", 192);
        fault(times(24, "may tap;") + "?", 192);
        fault(times(23, "may tap;") + "may x;may tap;", 188);
        fault(times(23, "may tap;") + "may tap", 191);
    }

    private static void kindsOfStatements() {
        E.sentence(17, "with which no such text goes on: statements");
        for (int kind = 1; kind <= 6; kind++) {
            for (String sort : new String[] {"may K;", "pay K 1;", "draw K 1;", "water K 1;", "may K if 1=1;", "pay K 1 if 1=1;"}) {
                fault(sort.replace("K", KINDS[kind]), NONE);
            }
        }
        for (String no : new String[] {"space", "dwelling", "bricked", "homes", "hom", "may", "if", "floor", "1", ";"}) {
            fault("may " + no + ";", 4);
            fault("water " + no + " 1;", 6);
        }
        fault("may home 1;", 9);
        fault("pay home;", 8);
        fault("pay home if 1=1;", 9);
        fault("draw home;", 9);
        fault("draw home floor;", 10);
        fault("draw home (1);", 10);
        fault("draw home 1+1;", 11);
        fault("draw home 1 if 1=1;", 12);
        fault("water home -1;", 11);
        fault("home may;", 0);
        fault("if;", 0);
        fault(";", 0);
    }

    private static void conditions() {
        E.sentence(17, "with which no such text goes on: ANY and EX");
        for (String word : new String[] {"floor", "people", "since", "below", "sky", "owner"}) {
            fault("pay tap " + word + ";", NONE);
            fault("may tap if " + word + "=" + word + ";", NONE);
            fault("may tap if " + word + ";", 11 + word.length());
        }
        fault("may tap if ;", 11);
        fault("may tap if 1;", 12);
        fault("may tap if (1<2);", 13);
        fault("may tap if {1};", 13);
        fault("may tap if {};", 12);
        fault("may tap if (1)<2;", NONE);
        fault("may tap if 1<2<3;", 14);
        fault("may tap if 1<2=3;", 14);
        fault("may tap if {1<2}<3;", 16);
        fault("may tap if 1<2 not 1<2;", 15);
        fault("may tap if 1<2 and or 1<2;", 19);
        fault("may tap if and 1<2;", 11);
        fault("may tap if 1<not 1<2;", 13);
        fault("may tap if 1<2 if 1<2;", 15);
        fault("pay tap -1;", 8);
        fault("pay tap 1--1;", 10);
        fault("pay tap 1*;", 10);
        fault("pay tap ();", 9);
        fault("pay tap {1};", 8);
        fault("pay tap tap;", 8);
        fault("pay tap not;", 8);
        fault("pay tap 1<2;", 9);
    }

    private static void rules() {
        E.sentence(18, "DRAW, WATER of a KIND (1 to 6): the last; else 2, 3");
        for (int kind = 1; kind <= 6; kind++) {
            SixAcres s = new SixAcres();
            Edges.tell(s, "draw K 1;draw K 99999;water K 99999;water K 0;".replace("K", KINDS[kind]));
            for (int other = 1; other <= 6; other++) {
                E.due("draw " + other, s.rule(other, 0), other == kind ? 99999 : 2);
                E.due("water " + other, s.rule(other, 1), other == kind ? 0 : 3);
            }
        }
        SixAcres s = new SixAcres();
        Edges.tell(s, "draw tap 00000;water tap 00007;");
        E.due("0", s.rule(6, 0), 0);
        E.due("7", s.rule(6, 1), 7);
    }

    private static void noSuchRule() {
        E.sentence(18, "NONE: none such");
        SixAcres s = Edges.town();
        for (int kind : new int[] {LEAST, -1, 0, 7, 8, MOST}) {
            E.due("draw " + kind, s.rule(kind, 0), NONE);
            E.due("water " + kind, s.rule(kind, 1), NONE);
        }
        for (int what : new int[] {LEAST, -1, 2, 3, MOST}) {
            E.due("what " + what, s.rule(1, what), NONE);
        }
    }

    private static void mayOrMayNot() {
        E.sentence(19, "the first \"may\" of the KIND that holds (one without ANY holds); without such: it may not");
        SixAcres s = new SixAcres();
        E.due("bare", s.may(0, 1), NONE);
        Edges.tell(s, "pay home 1;may home if 1=2;may shop;");
        E.due("none holds", s.may(0, 1), NONE);
        E.due("one without ANY", s.may(0, 2), 2);
        for (int kind = 3; kind <= 6; kind++) {
            E.due("none of kind " + kind, s.may(0, kind), NONE);
        }
        Edges.tell(s, "may home if 1=2;may home if 1=1;may home;");
        E.due("the first that holds", s.may(0, 1), 1);
    }

    private static void toBeBuilt() {
        E.sentence(19, "of what is to be built: people 0, since 0, owner -1");
        SixAcres s = new SixAcres();
        s.note(3, 1, 7, 5, 0);
        s.day(9);
        Edges.tell(s, "may home if people=0;may shop if since=0;may roof if owner=0-1;may tap if owner<0 and people+since=0;");
        E.due("asked of what is there", s.pay(3), 0);
        E.due("people", s.may(3, 1), 0);
        s.pay(3);
        E.due("since", s.may(3, 2), 1);
        s.pay(3);
        E.due("owner", s.may(3, 3), 2);
        E.due("in space", s.may(4, 6), 3);
    }

    private static void belowAndSky() {
        E.sentence(19, "below: KIND of the CELL below (floor 0: 9); sky: 1 if all CELLS above it are space");
        SixAcres s = Edges.block(47, 7, 0, 143, 1, 0, 96, 3, 0);
        Edges.tell(s, "may home if below=9;may shop if below=7;may roof if below=0;may tap if sky=1;may stair if sky=0;"
                + "may passage if floor=4;");
        E.due("the ground", s.may(0, 1), 0);
        E.due("the ground's last", s.may(47, 1), 0);
        E.due("floor 1 isn't the ground", s.may(48, 1), NONE);
        E.due("on bricks", s.may(95, 2), 1);
        E.due("over space", s.may(48, 3), 2);
        E.due("over space, not the ground", s.may(0, 3), NONE);
        E.due("sky on top", s.may(239, 6), 3);
        E.due("sky above the last room", s.may(143, 6), 3);
        E.due("none just below it", s.may(95, 6), NONE);
        E.due("none two below it", s.may(0, 6), NONE);
        E.due("so sky is 0", s.may(47, 5), 4);
        E.due("floor 4's first", s.may(192, 4), 5);
        E.due("floor 3's last", s.may(191, 4), NONE);
    }

    private static void statementNumbers() {
        E.sentence(19, "the statement (0 on)");
        SixAcres s = new SixAcres();
        Edges.tell(s, "draw tap 1;water tap 1;pay tap 1;" + times(20, "may shop if 1=2;") + "may tap;");
        E.due("of all statements", s.may(0, 6), 23);
        Edges.tell(s, "may tap;");
        E.due("the first", s.may(239, 6), 0);
    }

    private static void noSuchMay() {
        E.sentence(19, "NONE: .. none such");
        SixAcres s = new SixAcres();
        Edges.tell(s, "may home;may shop;may roof;may passage;may stair;may tap;");
        for (int kind = 1; kind <= 6; kind++) {
            E.due("kind " + kind, s.may(239, kind), kind - 1);
        }
        for (int kind : new int[] {LEAST, -1, 0, 7, 8, MOST}) {
            E.due("kind " + kind, s.may(0, kind), NONE);
        }
        for (int c : Edges.NO_CELLS) {
            E.due("cell " + c, s.may(c, 1), NONE);
        }
    }

    /** What a home tells in cell 56 (floor 1), with 6 people of owner 17, five days old, on a shop, under the sky. */
    private static int payOf(String ex) {
        SixAcres s = new SixAcres();
        s.day(9);
        s.note(8, 2, NONE, 0, 9);
        s.note(56, 1, 17, 6, 4);
        E.due("told " + ex, Edges.tell(s, "pay home " + ex + ";"), 0);
        return s.pay(56);
    }

    private static void pays(String ex, int want) {
        E.due(ex, payOf(ex), want);
    }

    private static void words() {
        E.sentence(20, "Asked of a CELL: floor; people; since .. below .. sky .. owner");
        pays("floor", 1);
        pays("people", 6);
        pays("since", 5);
        pays("below", 2);
        pays("sky", 1);
        pays("owner", 17);
    }

    private static void comparisons() {
        E.sentence(20, "EX (\"<\" | \">\" | \"=\") EX .. \"not\" ONE .. ALL .. ANY");
        for (int a = 1; a <= 3; a++) {
            pays("7 if " + a + "<2", a < 2 ? 7 : 0);
            pays("7 if " + a + ">2", a > 2 ? 7 : 0);
            pays("7 if " + a + "=2", a == 2 ? 7 : 0);
            pays("7 if not " + a + "<2", a < 2 ? 0 : 7);
            pays("7 if not " + a + ">2", a > 2 ? 0 : 7);
            pays("7 if not " + a + "=2", a == 2 ? 0 : 7);
            pays("7 if not not " + a + ">2", a > 2 ? 7 : 0);
        }
        pays("7 if not 1=2 and 1=2", 0);
        pays("7 if not {1=2 and 1=1}", 7);
        pays("7 if 1=1 or 1=1 and 1=2", 7);
        pays("7 if {1=1 or 1=1} and 1=2", 0);
        pays("7 if 1=2 or 1=2 or not 1=2", 7);
        pays("7 if 1=1 and 1=1 and not 1=1", 0);
        pays("7 if not 1=1 or 1=1", 7);
    }

    private static void held() {
        E.sentence(20, "Each result is held to from -10^9 to 10^9");
        pays("99999*10000", 999_990_000);
        pays("99999*10000+9999", 999_999_999);
        pays("99999*10000+10000", HELD);
        pays("99999*10000+10001", HELD);
        pays("99999*10000+10001-1", HELD - 1);
        pays("99999*99999", HELD);
        pays("99999*99999*99999*99999", HELD);
        pays("99999*99999-1", HELD - 1);
        pays("99999*99999+99999-99999", HELD - 99999);
        pays("0-99999*99999+99999*99999", 0);
        pays("0-99999*10000-10001+99999*99999", 0);
        pays("(0-99999*10000-9999)+99999*99999", 1);
        pays("(0-99999)*99999*99999*(0-1)", HELD);
        pays("(0-99999*99999)*(0-1)", HELD);
        pays("7 if 99999*99999=99999*99998", 7);
        pays("7 if 0-99999*99999-1=0-99999*99999", 7);
        pays("7 if 99999*99999>99999*10000+9999", 7);
        pays("7 if 99999*99999+1>99999*99999", 0);
    }

    private static void division() {
        E.sentence(20, "/ towards 0, 0 by 0");
        pays("7/2", 3);
        pays("9+(0-7)/2", 6);
        pays("9+7/(0-2)", 6);
        pays("(0-7)/(0-2)", 3);
        pays("9+(0-1)/2", 9);
        pays("5/0", 0);
        pays("5+0/0", 5);
        pays("5+(0-5)/0", 5);
        pays("5/(floor-1)+4", 4);
        pays("99999*99999/0", 0);
        pays("99999*99999/99999", 10000);
        pays("0-(99999*99999)/(0-1)", HELD);
        pays("100/7*7", 98);
        pays("7 if 5/0=0", 7);
    }

    private static void payAtLeastNothing() {
        E.sentence(20, "what the first \"pay\" of its KIND that holds tells, 0 at least");
        pays("0-1", 0);
        pays("0-99999*99999", 0);
        pays("1-1", 0);
        pays("2-1", 1);
        pays("0-5;pay home 7", 0);
        pays("5 if 1=2;pay home 6;pay home 7", 6);
        pays("people-7", 0);
    }

    private static void payWithout() {
        E.sentence(20, "without: 0");
        SixAcres s = Edges.block(0, 1, 0, 1, 2, 0, 2, 7, 0, 3, 0, 0);
        E.due("bare", s.pay(0), 0);
        Edges.tell(s, "pay home 5 if 1=2;pay tap 6;may shop;");
        for (int c = 0; c <= 4; c++) {
            E.due("cell " + c, s.pay(c), 0);
        }
    }

    private static void since() {
        E.sentence(20, "since: how many DAYS it's what it is (by the NOTE's DAY) .. owner (NONE -1)");
        SixAcres s = Edges.block(0, 1, 0);
        Edges.tell(s, "pay home since if owner=0-1;pay home owner+1;");
        E.due("on its first day", s.pay(0), 0);
        s.day(9999);
        E.due("on the last day", s.pay(0), 9999);
        s.note(0, 1, NONE, 0, 9990);
        E.due("told late", s.pay(0), 9);
        s.undo(1);
        E.due("undone", s.pay(0), 9999);
        s.note(1, 1, 0, 0, 0);
        E.due("owner 0", s.pay(1), 1);
        s.note(1, 1, 39, 0, 0);
        E.due("owner 39", s.pay(1), 40);
    }

    private static void noSuchPay() {
        E.sentence(20, "NONE: none such");
        SixAcres s = Edges.town();
        for (int c : Edges.NO_CELLS) {
            E.due("cell " + c, s.pay(c), NONE);
        }
    }

    private static void paidOwners() {
        E.sentence(21, "NONE: none such");
        SixAcres s = new SixAcres();
        s.note(0, 1, NONE, 0, 0);
        s.note(1, 1, 0, 0, 0);
        s.note(239, 1, 39, 0, 0);
        Edges.tell(s, "pay home 5;");
        E.due("owner 0", s.paid(0), 5);
        E.due("owner 39", s.paid(39), 5);
        E.due("who owns nothing", s.paid(1), 0);
        for (int owner : new int[] {LEAST, -2, NONE, 40, 41, MOST}) {
            E.due("owner " + owner, s.paid(owner), NONE);
        }
    }

    private static void paidInAll() {
        E.sentence(21, "an OWNER gets PAY of all CELLS of theirs");
        SixAcres s = new SixAcres();
        for (int c = 0; c < 240; c++) {
            s.note(c, 1, 7, 0, 0);
        }
        E.due("bare", s.paid(7), 0);
        Edges.tell(s, "pay home 99999*99999;");
        E.due("all cells", s.paid(7), 240L * HELD);
        s.note(0, 1, 8, 0, 0);
        E.due("less one", s.paid(7), 239L * HELD);
        s.note(1, 0, 7, 0, 0);
        E.due("space of theirs pays nothing", s.paid(7), 238L * HELD);
        s.note(2, 7, 7, 0, 0);
        E.due("nor do bricks", s.paid(7), 237L * HELD);
    }
}
