/** What the document promises, promise by promise: ordinary inputs, the edges it names, wrong inputs. */
public final class PromisesTest extends DeskTest {
    public static void main(String[] args) {
        newObject();
        feed();
        end();
        cards();
        card();
        start();
        trickCounts();
        tokens();
        faultsOfSteps();
        faultsOfNesting();
        faultsOfLength();
        faultsOfClaims();
        claimStays();
        fault();
        numbersOfClaims();
        testsOfClaims();
        testsOfFewCards();
        connectives();
        steps();
        stepsOfTwoPiles();
        freeSteps();
        riffleOrder();
        timesAndIf();
        run();
        largeRun();
        endsAndChoices();
        perform();
        look();
        holds();
        stack();
        at();
        count();
        finish();
    }

    private static void dueFault(String text, int kind, int place) {
        TestDesk desk = new TestDesk();
        due("trick of <" + text + ">", desk.trickOf(text), -1 - place);
        due("fault of <" + text + ">", desk.fault(), kind);
        due("STEPS behind <" + text + ">", desk.count(1), 0);
        due("tape behind <" + text + ">", desk.count(2), 0);
    }

    private static void dueClaimFault(String text, int kind, int place) {
        TestDesk desk = new TestDesk();
        due("claim of <" + text + ">", desk.claimOf(text), -1 - place);
        due("fault of claim <" + text + ">", desk.fault(), kind);
        due("the claim stays behind <" + text + ">", desk.holds(), true);
    }

    private static void dueTruth(String text, boolean want) {
        TestDesk desk = new TestDesk();
        due("claim of <" + text + ">", desk.claimOf(text), 0);
        due("<" + text + "> holds", desk.holds(), want);
    }

    private static void newObject() {
        TestDesk desk = new TestDesk();
        due("NONE", ConjurerDesk.NONE, -1);
        due("cards of a new one", desk.count(0), 8);
        due("start of a new one", desk.startRow(), "1 2 3 4 5 6 7 8");
        due("STEPS of a new one", desk.count(1), 0);
        due("tape of a new one", desk.count(2), 0);
        due("CHOICES of a new one", desk.count(3), 0);
        due("fault of a new one", desk.fault(), 0);
        due("claim of a new one", desk.holds(), true);
        due("nothing performed", desk.piles(), "|||");
        due("nothing run", desk.ends(0), -1);
        due("run of a new one", desk.run(), 0);
    }

    private static void feed() {
        TestDesk desk = new TestDesk();
        due("feed", desk.feed(0x05860187, 0x02030408, 0, -1, 0), 20);
        desk.end(8);
        due("bytes come highest first, unsigned", desk.start(), true);
        due("the fed row", desk.startRow(), "5 134 1 135 2 3 4 8");
        for (int i = 1; i <= 45; i++) {
            due("feed " + i, desk.feed(i, i, i, i, i), 20 * i);
        }
        due("a 46th feed", desk.feed(1, 1, 1, 1, 1), -1);
        due("none came", desk.count(2), 900);
        due("shortened to 881", desk.end(881), true);
        due("881 and 20 are too many", desk.feed(1, 1, 1, 1, 1), -1);
        due("none came to 881", desk.count(2), 881);
        desk.end(880);
        due("880 and 20 are not", desk.feed(1, 1, 1, 1, 1), 900);
        desk.end(3);
        due("feed behind three", desk.feed(0, 0, 0, 0, 0), 23);
    }

    private static void end() {
        TestDesk desk = new TestDesk();
        due("end(0) of an empty tape", desk.end(0), true);
        due("end(1) of an empty tape", desk.end(1), false);
        due("end(-1)", desk.end(-1), false);
        desk.feed(0, 0, 0, 0, 0);
        due("end(21) of twenty", desk.end(21), false);
        due("it stays", desk.count(2), 20);
        due("end(20) of twenty", desk.end(20), true);
        due("end(7)", desk.end(7), true);
        due("seven left", desk.count(2), 7);
        due("end(8) of seven", desk.end(8), false);
        due("end(least)", desk.end(Integer.MIN_VALUE), false);
        desk.tape("cut a 1;cut");
        desk.end(8);
        due("the first ones stay", desk.trick(), 1);
    }

    private static void cards() {
        TestDesk desk = new TestDesk();
        desk.trickOf("cut a free;");
        desk.claimOf("card a 1 = 1");
        desk.trickOf("cut a free;");
        desk.card(3, 13, 3, 1);
        due("run ahead of cards", desk.run(), 1);
        due("performed ahead of cards", desk.performWith(1), 1);
        desk.tape(1, 2, 3);
        desk.claimOf("1 =");
        desk.tape(1, 2, 3);
        due("cards(1)", desk.cards(1), false);
        due("cards(10)", desk.cards(10), false);
        due("cards(-8)", desk.cards(-8), false);
        due("refused: cards stay", desk.count(0), 8);
        due("refused: ends stay", desk.ends(0), 8);
        due("refused: performed stays", desk.look(0, 1), 2);
        due("cards(9)", desk.cards(9), true);
        due("nine cards", desk.count(0), 9);
        due("start of nine", desk.startRow(), "1 2 3 4 5 6 7 8 9");
        due("ends are forgotten", desk.ends(0), -1);
        due("the row is forgotten", desk.choice(0), -1);
        due("what was performed is forgotten", desk.piles(), "|||");
        due("its CHOICES are", desk.count(3), 0);
        due("the TRICK stays", desk.count(1), 1);
        due("the tape stays", desk.count(2), 3);
        due("the FAULT stays", desk.fault(), 2);
        due("the CLAIM stays, told of the START", desk.holds(), true);
        desk.claimOf("value a 3 = 3 and suit a 3 = 2 and colour a 3 = 0 and value a 9 = 9 and suit a 9 = 0");
        due("cards are as at first", desk.holds(), true);
        due("cards(2)", desk.cards(2), true);
        due("start of two", desk.startRow(), "1 2");
        desk.tape(130, 1);
        desk.start();
        due("cards(2) again", desk.cards(2), true);
        due("start face down again", desk.startRow(), "1 2");
    }

    private static void card() {
        TestDesk desk = new TestDesk();
        due("card(1, 13, 3, 1)", desk.card(1, 13, 3, 1), true);
        due("card(8, 1, 0, 0)", desk.card(8, 1, 0, 0), true);
        desk.claimOf("value a 1 = 13 and suit a 1 = 3 and colour a 1 = 1 and card a 1 = 1"
                + " and value a 8 = 1 and suit a 8 = 0 and colour a 8 = 0 and card a 8 = 8");
        due("they have these", desk.holds(), true);
        int[][] bad = {{0, 1, 0, 0}, {9, 1, 0, 0}, {-1, 1, 0, 0}, {1, 0, 0, 0}, {1, 14, 0, 0},
            {1, 1, -1, 0}, {1, 1, 4, 0}, {1, 1, 0, -1}, {1, 1, 0, 2}};
        for (int[] b : bad) {
            due("card with a wrong one", desk.card(b[0], b[1], b[2], b[3]), false);
        }
        due("they stay", desk.holds(), true);
        desk.cards(3);
        due("card 4 of three", desk.card(4, 1, 0, 0), false);
        due("card 3 of three", desk.card(3, 1, 0, 0), true);
    }

    private static void start() {
        TestDesk desk = new TestDesk();
        desk.cards(3);
        desk.tape(3, 129, 2);
        due("start", desk.start(), true);
        due("the tape is empty", desk.count(2), 0);
        due("the start", desk.startRow(), "3 129 2");
        desk.performWith();
        due("it lies so", desk.piles(), "31^2|||");
        int[][] bad = {{}, {1, 2}, {1, 2, 3, 1}, {1, 2, 2}, {1, 2, 130}, {0, 1, 2}, {1, 2, 4},
            {128, 1, 2}, {1, 2, 67}, {1, 2, 195}, {1, 2, 19}};
        for (int[] b : bad) {
            desk.tape(b);
            due("a wrong start", desk.start(), false);
            due("tape behind a wrong start", desk.count(2), 0);
            due("the start stays", desk.startRow(), "3 129 2");
        }
        desk.trickOf("cut a 1;");
        due("what was performed stays", desk.piles(), "31^2|||");
    }

    private static void trickCounts() {
        TestDesk desk = new TestDesk();
        due("an empty trick", desk.trickOf(""), 0);
        due("blanks alone", desk.trickOf(" \n \n"), 0);
        due("every STEP", desk.trickOf("cut a 1; deal a 0 to b; move a all to b; take b free to c; turn a 9;"
                + "flip a 9; riffle a b to c; faro a b to a; down a to b; swap c d; mark d 1; times 2 { cut a 1; }"
                + "if 1 = 1 { cut a 1; } else { cut a 2; cut a 3; }"), 17);
        due("count(1)", desk.count(1), 17);
        due("the tape is empty", desk.count(2), 0);
        due("without blanks", desk.trickOf("cut a 1;if(size a=1){}else{}"), 2);
        due("with feeds", desk.trickOf("cut\na\n1\n;\n"), 1);
        due("numbers of two digits", desk.trickOf("cut a 09;times 02{}mark a 01;"), 3);
        due("empty { }", desk.trickOf("times 9 { } if 1 = 1 { } else { }"), 2);
        due("40 STEPS", desk.trickOf("cut a 1;".repeat(40)), 40);
        due("40 STEPS within one another", desk.trickOf("times 2{" + "cut a 1;".repeat(38) + "}cut a 1;"), 40);
        due("a fault", desk.trickOf("cut a 1"), -8);
        due("the TRICK stays", desk.count(1), 40);
        due("a trick again", desk.trickOf("cut a 1;"), 1);
        due("no fault now", desk.fault(), 0);
    }

    private static void tokens() {
        dueFault("Cut a 1;", 1, 0);
        dueFault("cut A 1;", 1, 4);
        dueFault("cut a 1,", 1, 7);
        dueFault("cut a 1;\t", 1, 8);
        dueFault("cut a 1;\r\n", 1, 8);
        dueFault("cut a 1;\0", 1, 8);
        dueFault("cut a 1;" + (char) 228, 1, 8);
        dueFault("cut a 1; .", 1, 9);
        dueFault("cut a1;", 1, 4);
        dueFault("cut a 1x;", 1, 6);
        dueFault("cut a 100;", 1, 6);
        dueFault("cut a 000;", 1, 6);
        dueFault("shufflesx", 1, 0);
        dueFault("shuffles", 2, 0);
        dueFault("cutt a 1;", 2, 0);
        dueFault("cu t a 1;", 2, 0);
        dueFault("if 1 ! 2 { }", 1, 5);
        dueFault("if 1 ! = 2 { }", 1, 5);
        dueFault("if 1 < = 2 { }", 2, 7);
        dueFault("if 1 == 2 { }", 2, 6);
        dueFault("if 1 =< 2 { }", 2, 6);
        dueFault("cut -1;", 1, 4);
        dueFault("if 1 !", 1, 5);
        dueFault("if 1 !=", 2, 7);
        dueFault("if 1 <=", 2, 7);
        dueFault("if 1 >=", 2, 7);
        bytesBehindTheEnd();
    }

    /** What was cut off by end() is no longer there, even if it would go on with the last TOKEN. */
    private static void bytesBehindTheEnd() {
        TestDesk desk = new TestDesk();
        desk.tape("1 = 12");
        desk.end(5);
        due("1 = 1 of 1 = 12", desk.claim(), 0);
        due("it holds", desk.holds(), true);
        desk.tape("1 != 2");
        desk.end(3);
        due("1 ! of 1 != 2", desk.claim(), -3);
        due("its fault", desk.fault(), 1);
        desk.tape("cut a 1;cut a 1;");
        desk.end(8);
        due("one STEP of two", desk.trick(), 1);
    }

    private static void faultsOfSteps() {
        dueFault("cut", 2, 3);
        dueFault("cut   ", 2, 6);
        dueFault("cut a", 2, 5);
        dueFault("cut a 1", 2, 7);
        dueFault("cut e 1;", 2, 4);
        dueFault("cut 1 a;", 2, 4);
        dueFault("cut or 1;", 2, 4);
        dueFault("cut free 1;", 2, 4);
        dueFault("cut a ;", 2, 6);
        dueFault("cut a b;", 2, 6);
        dueFault("cut a 10;", 3, 6);
        dueFault("cut a 1 to b;", 2, 8);
        dueFault("cut a 1;;", 2, 8);
        dueFault("cut a 1; }", 2, 9);
        dueFault("cut a 1; else { }", 2, 9);
        dueFault("{ cut a 1; }", 2, 0);
        dueFault("turn a 10;", 3, 7);
        dueFault("deal a 1 b;", 2, 9);
        dueFault("deal a 1 to a;", 3, 12);
        dueFault("deal a 99 to a;", 3, 7);
        dueFault("move b all to b;", 3, 14);
        dueFault("take a all to b;", 2, 7);
        dueFault("take a 0 to b;", 3, 7);
        dueFault("take c free to c;", 3, 15);
        dueFault("take a 1 to 2;", 2, 12);
        dueFault("flip a 0;", 3, 7);
        dueFault("flip a all;", 2, 7);
        dueFault("mark a 10;", 3, 7);
        dueFault("down a to a;", 3, 10);
        dueFault("down a b;", 2, 7);
        dueFault("riffle a a to b;", 3, 9);
        dueFault("riffle a to b;", 2, 9);
        dueFault("faro d d to a;", 3, 7);
        dueFault("swap c c;", 3, 7);
        dueFault("swap a b to c;", 2, 9);
        dueFault("times 1 { }", 3, 6);
        dueFault("times 10 { }", 3, 6);
        dueFault("times free { }", 2, 6);
        dueFault("times 2 cut a 1;", 2, 8);
        dueFault("times 2 { cut a 1;", 2, 18);
        dueFault("times 2 { } else { }", 2, 12);
        dueFault("if { }", 2, 3);
        dueFault("if 1 = 1 cut a 1;", 2, 9);
        dueFault("if 1 = 1 { } else cut a 1;", 2, 18);
        dueFault("if 1 = 1 { } else { } else { }", 2, 22);
        due("the target may be either", new TestDesk().trickOf("riffle a b to b; faro c d to c;"), 2);
    }

    private static void faultsOfNesting() {
        String four = "times 2 { times 2 { if 1 = 1 { if 1 = 1 { ";
        due("four { in one another", new TestDesk().trickOf(four + "cut a 1; } else { } } } }"), 5);
        dueFault(four + "times 2 { } } } } }", 4, four.length() + 8);
        dueFault(four + "if 1 = 1 { } } } } }", 4, four.length() + 9);
        dueFault(four + "times 1 { } } } } }", 3, four.length() + 6);
        dueFault(four + "} else { if 1 = 1 { } } } } }", 4, four.length() + 18);
        due("one behind another", new TestDesk().trickOf("times 2 { }".repeat(7)), 7);
        String forty = "cut a 1;".repeat(40);
        dueFault(forty + " turn a 1;", 4, 321);
        dueFault(forty + "a", 2, 320);
        dueFault(forty + "Turn a 1;", 1, 320);
        dueFault(forty + "if", 4, 320);
        dueFault("times 2{" + "cut a 1;".repeat(39) + "mark a 1;}", 4, 320);
        dueFault("if not(not(not(not(not 1 = 1)))) { }", 4, 19);
        due("eight in one another", new TestDesk().trickOf("if not(not(not(not(1 = 1)))) { }"), 1);
    }

    private static void faultsOfLength() {
        TestDesk desk = new TestDesk();
        due("8 CHOICES", desk.trickOf("times 2 { times 2 { cut a free; riffle a b to c; } }"), 4);
        dueFault("times 9 { cut a free; }", 5, 23);
        dueFault("times 3 { times 3 { mark a free; } }  ", 5, 38);
        dueFault("flip a free;".repeat(9), 5, 108);
        dueFault("times 4 { if 1 = 1 { cut a free; cut a 1; } else { riffle a b to a; turn a free; } }", 5, 84);
        due("both ways together, 8", desk.trickOf("times 4 { if 1 = 1 { cut a free; } else { riffle a b to a; } }"), 4);
        // 1 + 9 * (1 + 9 * 6) = 496
        String often = "times 9 { times 9 { " + "cut a 1; ".repeat(6) + "} }";
        due("496 STEPS", desk.trickOf(often), 8);
        due("500 STEPS", desk.trickOf(often + "cut a 1;".repeat(4)), 12);
        String tooOften = often + "cut a 1;".repeat(5);
        dueFault(tooOften, 6, tooOften.length());
        dueFault(often + " if 1 = 1 { cut a 1; cut a 1; } else { cut a 1; cut a 1; }", 6, often.length() + 58);
        dueFault(often + "cut a free;".repeat(9), 5, often.length() + 99);
        due("performed 496 times", deskWith(8, often).performWith(), 496);
    }

    private static void faultsOfClaims() {
        dueClaimFault("", 2, 0);
        dueClaimFault("  ", 2, 2);
        dueClaimFault("1", 2, 1);
        dueClaimFault("1 =", 2, 3);
        dueClaimFault("1 = 2 3", 2, 6);
        dueClaimFault("1 = 2 ;", 2, 6);
        dueClaimFault("1 = 2 and", 2, 9);
        dueClaimFault("1 = 2 or or", 2, 9);
        dueClaimFault("1 = 100", 1, 4);
        dueClaimFault("1 = 2 #", 1, 6);
        dueClaimFault("1 = (2)", 2, 4);
        dueClaimFault("(1) = 2", 2, 2);
        dueClaimFault("(1 = 2", 2, 6);
        dueClaimFault("1 = 2)", 2, 5);
        dueClaimFault("not", 2, 3);
        dueClaimFault("size", 2, 4);
        dueClaimFault("size e = 1", 2, 5);
        dueClaimFault("size a 1 = 1", 2, 7);
        dueClaimFault("card a = 1", 2, 7);
        dueClaimFault("card a 0 = 1", 3, 7);
        dueClaimFault("face a 10 = 1", 3, 7);
        dueClaimFault("value a free = 1", 2, 8);
        dueClaimFault("alike face a", 2, 6);
        dueClaimFault("alike card a", 2, 6);
        dueClaimFault("alike suit", 2, 10);
        dueClaimFault("alike a", 2, 6);
        dueClaimFault("each 2 a", 2, 7);
        dueClaimFault("each 2 size a", 2, 7);
        dueClaimFault("each suit a", 2, 5);
        dueClaimFault("each 1 suit a", 3, 5);
        dueClaimFault("each 10 suit a", 3, 5);
        dueClaimFault("rising value a", 2, 7);
        dueClaimFault("rising a a", 2, 9);
        dueClaimFault("cut a 1;", 2, 0);
        dueClaimFault("free = 1", 2, 0);
        dueClaimFault("(((((((((1 = 1)))))))))", 4, 8);
        dueClaimFault("not not not not (((( not 1 = 1))))", 4, 21);
        dueClaimFault("((((((((1 = 1 and not 1 = 1))))))))", 4, 18);
    }

    private static void claimStays() {
        TestDesk desk = new TestDesk();
        due("a claim", desk.claimOf("size a = 7"), 0);
        due("the tape is empty", desk.count(2), 0);
        due("it does not hold", desk.holds(), false);
        due("a fault", desk.claimOf("size a = 8 and"), -15);
        due("the tape is empty then, too", desk.count(2), 0);
        due("the old one stays", desk.holds(), false);
        due("another", desk.claimOf("size a = 8"), 0);
        due("it holds", desk.holds(), true);
        due("the TRICK stays", desk.count(1), 0);
        due("ones one behind another are in none", desk.claimOf("not (1 = 2) and ".repeat(12) + "1 = 1"), 0);
        due("so they hold", desk.holds(), true);
        due("128 in a row", desk.claimOf("1=2 or ".repeat(127) + "1=1"), 0);
        due("the last one holds", desk.holds(), true);
        due("900 bytes", desk.claimOf("1=1 and ".repeat(112) + "1=2 "), 0);
        due("the last one does not", desk.holds(), false);
    }

    private static void fault() {
        TestDesk desk = new TestDesk();
        due("ahead of any", desk.fault(), 0);
        desk.trickOf("cut a 10;");
        due("of the trick", desk.fault(), 3);
        due("told again", desk.fault(), 3);
        desk.claimOf("#");
        due("of the claim", desk.fault(), 1);
        desk.claimOf("1 = 1");
        due("none", desk.fault(), 0);
        desk.trickOf("cut a free;".repeat(9));
        due("of choices", desk.fault(), 5);
        desk.run();
        desk.perform();
        desk.cards(3);
        due("it stays", desk.fault(), 5);
        desk.trickOf("");
        due("an empty one has none", desk.fault(), 0);
    }

    private static void numbersOfClaims() {
        dueTruth("size a = 8 and size b = 0", true);
        dueTruth("card a 8 = 8 and card a 9 = 0 and card b 1 = 0", true);
        dueTruth("value a 5 = 5 and suit a 5 = 0 and suit a 4 = 3 and colour a 5 = 0 and colour a 4 = 1", true);
        dueTruth("where a = 0 and up a = 0 and face a 1 = 0", true);
        dueTruth("99 > 98 and 07 = 7", true);
        dueTruth("1 = 2", false);
        dueTruth("1 != 2", true);
        dueTruth("2 != 2", false);
        dueTruth("1 < 2", true);
        dueTruth("2 < 2", false);
        dueTruth("2 <= 2", true);
        dueTruth("3 <= 2", false);
        dueTruth("2 > 1", true);
        dueTruth("2 > 2", false);
        dueTruth("2 >= 2", true);
        dueTruth("1 >= 2", false);
        TestDesk desk = new TestDesk();
        desk.trickOf("mark a 3; turn a 2; deal a 4 to b;");
        desk.performWith();
        desk.claimOf("up b = 2 and up a = 0 and where b = 2 and where a = 0 and face b 3 = 1 and face b 1 = 0"
                + " and card b 3 = 1 and value b 4 = 2 and suit b 4 = 1 and colour b 4 = 1");
        due("what lies as performed", desk.holds(), true);
    }

    private static void testsOfClaims() {
        dueTruth("alike value b and alike suit b and each 2 suit b and rising b", true);
        dueTruth("alike value a", false);
        dueTruth("rising a", true);
        dueTruth("each 2 colour a", true);
        dueTruth("each 3 colour a", false);
        dueTruth("each 4 suit a", true);
        dueTruth("each 5 suit a", false);
        dueTruth("each 8 value a", true);
        dueTruth("each 9 suit a", true);
        TestDesk desk = new TestDesk();
        desk.cards(5);
        for (int c = 1; c <= 5; c++) {
            desk.card(c, c, c == 3 ? 1 : 0, 1);
        }
        desk.claimOf("alike colour a and not alike suit a and each 9 suit a");
        due("alike colours", desk.holds(), true);
        desk.claimOf("each 2 suit a");
        due("the first two are alike", desk.holds(), false);
        desk.card(1, 1, 1, 1);
        desk.card(4, 4, 0, 1);
        // suits 1 0 | 1 0 | 0: neighbours across groups and the card left over do not matter
        desk.card(5, 4, 0, 1);
        desk.claimOf("each 2 suit a");
        due("two by two from the top on", desk.holds(), true);
        desk.claimOf("rising a");
        due("equal values do not rise", desk.holds(), false);
        desk.card(5, 6, 0, 1);
        due("they do now", desk.holds(), true);
        desk.card(1, 2, 0, 1);
        due("the first two do not", desk.holds(), false);
        desk.card(1, 13, 0, 1);
        due("falling", desk.holds(), false);
        desk.trickOf("move a 4 to b;");
        desk.performWith();
        desk.claimOf("rising a and alike suit a and not rising b");
        due("one card rises", desk.holds(), true);
    }

    private static void testsOfFewCards() {
        TestDesk desk = new TestDesk();
        desk.cards(4);
        for (int c = 1; c <= 4; c++) {
            desk.card(c, 7, 2, 0);
        }
        desk.claimOf("alike value a and alike suit a and alike colour a");
        due("all are alike", desk.holds(), true);
        desk.card(4, 8, 2, 0);
        due("but for the last one", desk.holds(), false);
        desk.card(4, 7, 2, 0);
        desk.card(2, 7, 3, 0);
        due("but for the second one", desk.holds(), false);
        desk.card(2, 7, 2, 0);
        desk.card(1, 7, 2, 1);
        due("but for the first one", desk.holds(), false);
        desk.cards(4);
        desk.claimOf("each 4 suit a and each 2 suit a");
        due("four suits", desk.holds(), true);
        desk.card(4, 1, 2, 0);
        due("the last of the last group", desk.holds(), false);
        desk.claimOf("each 3 suit a");
        due("it is in no group of three", desk.holds(), true);
    }

    private static void connectives() {
        dueTruth("1 = 1 or 1 = 1 and 1 = 2", true);
        dueTruth("(1 = 1 or 1 = 1) and 1 = 2", false);
        dueTruth("1 = 2 and 1 = 1 or 1 = 1", true);
        dueTruth("1 = 2 and (1 = 1 or 1 = 1)", false);
        dueTruth("not 1 = 2 and 1 = 2", false);
        dueTruth("not (1 = 2 and 1 = 2)", true);
        dueTruth("not 1 = 1 or 1 = 1", true);
        dueTruth("not (1 = 1 or 1 = 1)", false);
        dueTruth("not not 1 = 1", true);
        dueTruth("1 = 2 or 1 = 2 or 1 = 1", true);
        dueTruth("1 = 1 and 1 = 1 and 1 = 2", false);
        dueTruth("1 = 2 or 1 = 1 and (1 = 2 or 1 = 1 and (1 = 2 or 1 = 1 and (1 = 2 or 1 = 1)))", true);
        dueTruth("((((((((1 = 2 or 1 = 1 and 1 = 1) and 1 = 1) or 1 = 2) and 1 = 1))) or 1 = 2))", true);
    }

    private static void steps() {
        due("cut", after(5, "cut a 2;"), "34512|||");
        due("cut 0", after(5, "cut a 0;"), "12345|||");
        due("cut more than there are", after(5, "cut a 7;"), "12345|||");
        due("cut all", after(5, "cut a all;"), "12345|||");
        due("cut of none", after(5, "cut b 2;"), "12345|||");
        due("deal", after(5, "deal a 3 to b;"), "45|321||");
        due("deal on the top", after(5, "deal a 2 to b; deal a 2 to b;"), "5|4321||");
        due("deal all", after(5, "deal a all to d;"), "|||54321");
        due("deal more than there are", after(3, "deal a 9 to b;"), "|321||");
        due("move", after(5, "move a 3 to b;"), "45|123||");
        due("move on the top", after(5, "move a 2 to b; move a 2 to b;"), "5|3412||");
        due("move all", after(3, "move a all to c;"), "||123|");
        due("take", after(5, "take a 2 to b; take a 4 to b; take a 1 to b;"), "34|152||");
        due("take where none is", after(3, "take a 4 to b; take c 1 to b;"), "123|||");
        due("turn", after(5, "turn a 3;"), "3^2^1^45|||");
        due("turn twice", after(5, "turn a 3; turn a 2;"), "231^45|||");
        due("turn all", after(3, "turn a all;"), "3^2^1^|||");
        due("turn more than there are", after(3, "turn a 9;"), "3^2^1^|||");
        due("turn 0", after(3, "turn a 0;"), "123|||");
        due("flip", after(3, "flip a 2; flip a 3; flip a 3; flip a 4;"), "12^3|||");
        due("mark", after(3, "mark a 2;"), "12*3|||");
        due("mark another", after(3, "mark a 2; mark a 3;"), "123*|||");
        due("mark where none is", after(3, "mark a 2; mark a 4; mark b 1;"), "12*3|||");
        due("a mark goes along", after(3, "mark a 1; turn a 2; deal a all to b;"), "|31^*2^||");
    }

    private static void stepsOfTwoPiles() {
        due("faro", after(6, "move a 3 to b; faro a b to a;"), "415263|||");
        due("faro, first larger", after(5, "move a 1 to b; faro a b to c;"), "||21345|");
        due("faro, second larger", after(5, "move a 4 to b; faro a b to b;"), "|51234||");
        due("faro on the top", after(5, "move a 2 to b; move a 1 to c; faro b a to c;"), "||14253|");
        due("faro of none", after(3, "faro b c to d;"), "123|||");
        due("faro of one pile", after(3, "faro b a to d;"), "|||123");
        due("down", after(5, "down a to b;"), "|24531||");
        due("down on the top", after(5, "move a 2 to b; down a to b;"), "|45312||");
        due("down of one", after(3, "move a 2 to b; down a to c;"), "|12|3|");
        due("down of none", after(3, "down b to c;"), "123|||");
        due("swap", after(5, "move a 2 to b; swap a b;"), "12|345||");
        due("swap with none", after(3, "swap d a;"), "|||123");
        due("riffle on the top", after(5, "move a 2 to b; move a 1 to c; riffle a b to c;", 0), "||45123|");
        due("riffle to the second", after(4, "move a 2 to b; riffle a b to b;", 5), "|1234||");
    }

    private static void freeSteps() {
        due("cut free 0", after(3, "cut a free;", 0), "123|||");
        due("cut free 2", after(3, "cut a free;", 2), "312|||");
        due("cut free 3", after(3, "cut a free;", 3), "stuck behind 0: 123|||");
        due("cut free of none, 0", after(3, "cut b free;", 0), "123|||");
        due("cut free of none, 1", after(3, "cut b free;", 1), "stuck behind 0: 123|||");
        due("deal free 0", after(3, "deal a free to b;", 0), "123|||");
        due("deal free all", after(3, "deal a free to b;", 3), "|321||");
        due("deal free more", after(3, "deal a free to b;", 4), "stuck behind 0: 123|||");
        due("move free", after(3, "move a free to b;", 2), "3|12||");
        due("turn free all", after(3, "turn a free;", 3), "3^2^1^|||");
        due("turn free of none", after(3, "turn b free;", 0), "123|||");
        due("turn free of none, 1", after(3, "turn b free;", 1), "stuck behind 0: 123|||");
        due("take free 0 is PLACE 1", after(3, "take a free to b;", 0), "23|1||");
        due("take free 2", after(3, "take a free to b;", 2), "12|3||");
        due("take free 3", after(3, "take a free to b;", 3), "stuck behind 0: 123|||");
        due("take free of none, 0", after(3, "take b free to a;", 0), "123|||");
        due("take free of none, 1", after(3, "take b free to a;", 1), "stuck behind 0: 123|||");
        due("flip free", after(3, "flip a free;", 1), "12^3|||");
        due("flip free of none", after(3, "flip c free;", 0), "123|||");
        due("mark free", after(3, "mark a free;", 2), "123*|||");
        due("mark free of none", after(3, "mark a 1; mark c free;", 0), "1*23|||");
        due("riffle of none, 0", after(3, "riffle b c to d;", 0), "123|||");
        due("riffle of none, 1", after(3, "riffle b c to d;", 1), "stuck behind 0: 123|||");
        due("riffle with none, 0", after(3, "riffle b a to d;", 0), "|||123");
        due("riffle with none, 1", after(3, "riffle b a to d;", 1), "stuck behind 0: 123|||");
        due("255 is no CHOICE", after(3, "cut a free;", 255), "stuck behind 0: 123|||");
    }

    private static void riffleOrder() {
        String[] ways = {"34125", "31425", "31245", "31254", "13425", "13245", "13254", "12345", "12354", "12534"};
        // a: 3 4 (first PILE), b: 1 2 5 (second PILE)
        String text = "move a 2 to b; take a 3 to c; move b 2 to d; move c 1 to b; move d 2 to b; riffle a b to a;";
        for (int way = 0; way < ways.length; way++) {
            due("riffle " + way, after(5, text, way), ways[way] + "|||");
        }
        due("riffle 10 of 10", after(5, text, 10), "stuck behind 5: 34|125||");
        due("the last of 126 ways", after(9, "move a 4 to b; riffle a b to a;", 125), "123456789|||");
        due("no 127th", after(9, "move a 4 to b; riffle a b to a;", 126), "stuck behind 1: 56789|1234||");
    }

    private static void timesAndIf() {
        due("times", after(5, "times 3 { cut a 1; }"), "45123|||");
        due("times within times", after(9, "times 2 { times 3 { cut a 1; } cut a 1; }"), "912345678|||");
        due("if", after(3, "if size a = 3 { cut a 1; }"), "231|||");
        due("if not", after(3, "if size a = 2 { cut a 1; }"), "123|||");
        due("else", after(3, "if size a = 2 { cut a 1; } else { turn a 1; } cut a 1;"), "231^|||");
        due("not else", after(3, "if size a = 3 { cut a 1; } else { turn a 1; } cut a 1;"), "312|||");
        due("if looks at what lies now",
                after(4, "times 3 { if card a 1 = 2 { deal a 2 to b; } else { cut a 1; } }"), "14|32||");
        due("times four deep", after(9, "times 2 { times 2 { times 2 { times 2 { cut a 1; } } } }"), "891234567|||");
        due("ifs four deep", after(3, "if 1 = 2 { } else { if 1 = 1 { if 1 = 2 { } else { if 1 = 1 { cut a 1; } } } }"),
                "231|||");
        due("two conditions", after(3, "if 1 = 1 { flip a 1; } if 1 = 2 { flip a 2; } else { flip a 3; }"), "1^23^|||");
        due("else of the inner one", after(2, "if 1 = 1 { if 1 = 2 { } else { flip a 1; } } else { flip a 2; }"), "1^2|||");
    }

    private static void run() {
        TestDesk desk = new TestDesk();
        desk.trickOf("cut a free; deal a 4 to b; riffle a b to a;");
        desk.claimOf("each 2 colour a");
        due("Gilbreath's trick holds", desk.run(), 0);
        due("told of all", desk.ends(0), desk.ends(1));
        desk.claimOf("each 4 suit a");
        due("of four suits too", desk.run(), 0);
        desk.claimOf("rising a");
        due("not of each", desk.run(), 1);
        desk.trickOf("mark a free;");
        desk.claimOf("where a > 0");
        due("marks are told apart", desk.run(), 0);
        due("eight of them", desk.ends(0), 8);
        desk.trickOf("turn a free;");
        desk.claimOf("1 = 1");
        desk.run();
        due("faces are told apart", desk.ends(0), 9);
        desk.trickOf("cut a free; cut a free;");
        desk.run();
        due("each way once", desk.ends(0), 8);
        desk.trickOf("flip a free; if face a 1 = 1 { flip a 1; } else { if face a 2 = 1 { flip a 2; } }");
        desk.run();
        due("ways that come together", desk.ends(0), 7);
        desk.trickOf("times 2 { times 2 { times 2 { times 2 { cut a 1; } } } } cut a 1;");
        desk.claimOf("card a 1 = 2");
        due("times four deep", desk.run(), 0);
        desk.trickOf("cut a free; if card a 1 < 5 { if card a 1 < 3 { if card a 1 < 2 { if 1 = 1 { cut a 7; } } else"
                + "{ if 1 = 2 { } else { cut a 6; } } } else { if card a 1 = 3 { cut a 5; } else { cut a 4; } } }");
        desk.claimOf("card a 1 > 4");
        due("ifs four deep", desk.run(), 0);
        due("all come to one of these", desk.ends(0), 4);
        desk.tape(129, 2, 3, 4, 5, 6, 7, 8);
        desk.start();
        desk.trickOf("");
        desk.claimOf("up a = 1 and face a 1 = 1");
        due("from the START", desk.run(), 0);
        desk.run();
        due("run leaves what is performed alone", desk.look(0, 1), 0);
    }

    private static void largeRun() {
        TestDesk desk = new TestDesk();
        desk.cards(9);
        // 9 * 8 * 7 * 6 = 3024 orders of four cards taken one by one
        desk.trickOf("times 4 { take a free to b; }");
        due("3024 ways are LARGE", desk.run(), 2);
        due("no ends", desk.ends(0), -1);
        due("none hold", desk.ends(1), -1);
        due("no row", desk.ends(2), -1);
        due("no choice", desk.choice(0), -1);
        desk.trickOf("times 3 { take a free to b; } down b to a;");
        due("504 are not", desk.run(), 0);
        due("504 ends", desk.ends(0), 504);
        desk.trickOf("times 4 { take a free to b; } if 1 = 1 { times 4 { move b all to a; } }");
        due("LARGE in the middle is LARGE", desk.run(), 2);
        desk.trickOf("mark a free; times 3 { take a free to b; } if where b = 0 { take a 1 to b; }");
        due("9 * 504 are LARGE", desk.run(), 2);
        due("forgets the latest run", desk.ends(0), -1);
        desk.cards(8);
        desk.trickOf("times 4 { take a free to b; }");
        due("1680 are not", desk.run(), 0);
        due("1680 ends", desk.ends(0), 1680);
        desk.trickOf("times 4 { take a free to b; } flip b 1;");
        due("1680 flipped", desk.run(), 0);
        desk.trickOf("times 4 { take a free to b; } mark b free;");
        due("6720 are LARGE", desk.run(), 2);
        desk.cards(9);
        // 126 * 9 = 1134 ways; the ways of an if count by themselves and together
        desk.trickOf("move a 4 to b; riffle a b to a; mark a free;");
        due("1134 ways", desk.run(), 0);
        due("1134 ends", desk.ends(0), 1134);
        desk.trickOf("move a 4 to b; riffle a b to a; flip a free; flip a free; flip a 1;");
        due("126 * 37 are LARGE", desk.run(), 2);
        // 9 * 9 * 37 = 2997 ways
        desk.trickOf("cut a free; mark a free; flip a free; flip a free;");
        due("2997 ways", desk.run(), 0);
        due("2997 ends", desk.ends(0), 2997);
        desk.trickOf("cut a free; mark a free; flip a free; if up a = 1 { flip a free; } else { }");
        due("still 2997", desk.run(), 0);
        largeEdge();
        largeWithIfAndTimes();
    }

    private static void largeEdge() {
        TestDesk desk = new TestDesk();
        desk.cards(6);
        // 120 orders of five cards, one of five MARKED, one of five with its face up: just 3000 ways
        String most = "take a 6 to c; times 4 { take a free to b; } move a 1 to b; mark b free; flip b free;";
        desk.trickOf(most);
        desk.claimOf("size b = 5");
        due("3000 ways are not LARGE", desk.run(), 0);
        due("3000 ends", desk.ends(0), 3000);
        String oneWay = "if card b 1 = 1 and card b 2 = 2 and card b 3 = 3 and card b 4 = 4 and where b = 1"
                + " and face b 1 = 1 {";
        desk.trickOf(most + oneWay + " move c all to d; }");
        due("one of them otherwise", desk.run(), 0);
        due("still 3000 ends", desk.ends(0), 3000);
        desk.trickOf(most + oneWay + " move c free to d; }");
        due("3001 ways are LARGE", desk.run(), 2);
        desk.trickOf(most + oneWay + " move c free to d; } move d all to c; down b to c; times 9 { swap a b; }");
        due("LARGE though they come together again", desk.run(), 2);
    }

    private static void largeWithIfAndTimes() {
        TestDesk desk = new TestDesk();
        desk.cards(9);
        desk.trickOf("times 3 { take a free to b; } if card b 1 = 1 { cut a 1; } else { mark a free; }");
        due("56 and 2688 ways", desk.run(), 0);
        due("together", desk.ends(0), 56 + 2688);
        desk.trickOf("times 3 { take a free to b; } if card b 1 = 1 { mark a free; } else { mark a free; }");
        due("336 and 2688 ways are LARGE together", desk.run(), 2);
        desk.trickOf("times 3 { take a free to b; } if card b 1 = 1 { mark a free; mark a 1; } else { mark a free; }");
        due("336 that come down to 56, and 2688", desk.run(), 0);
        desk.cards(8);
        desk.trickOf("times 4 { take a free to b; } times 9 { flip b 1; cut a 1; }");
        due("each time by itself", desk.run(), 0);
        due("1680 ends of many", desk.ends(0), 1680);
        desk.trickOf("times 4 { take a free to b; } if card b 1 < 5 { flip b 1; } else { if card b 2 < 5 { flip b 2; }"
                + " else { times 2 { if 1 = 1 { flip a 1; } } } } if up b = 1 { turn b all; }");
        due("ifs within one another", desk.run(), 0);
        due("none is lost", desk.ends(0), 1680);
    }

    private static void endsAndChoices() {
        TestDesk desk = new TestDesk();
        due("ahead of any", desk.ends(0), -1);
        due("1 ahead of any", desk.ends(1), -1);
        due("2 ahead of any", desk.ends(2), -1);
        due("choice ahead of any", desk.choice(0), -1);
        desk.cards(4);
        desk.trickOf("cut a free; take a free to b; if card b 1 = 3 { flip b 1; cut a free; }");
        desk.claimOf("up b = 0 or not card a 2 = 1");
        // flipped means 3 is in b; the first row: cut 0, take 3rd (2), a is 1 2 4, cut 2: 4 1 2
        due("not of each", desk.run(), 1);
        due("each card taken, the others in three turns", desk.ends(0), 4 * 3);
        due("holding", desk.ends(1), 4 * 3 - 1);
        due("a row of three", desk.ends(2), 3);
        due("first", desk.choice(0), 0);
        due("second", desk.choice(1), 2);
        due("third", desk.choice(2), 2);
        due("no fourth", desk.choice(3), -1);
        due("none below", desk.choice(-1), -1);
        due("ends(3)", desk.ends(3), -1);
        due("ends(-1)", desk.ends(-1), -1);
        desk.trickOf("");
        desk.claimOf("1 = 1");
        desk.card(1, 2, 2, 1);
        desk.tape(4, 3, 2, 1);
        desk.start();
        due("the latest run stays told", desk.ends(0), 12);
        due("so does its row", desk.choice(1), 2);
        desk.claimOf("1 = 2");
        due("a trick without CHOICES", desk.run(), 1);
        due("an empty row", desk.ends(2), 0);
        due("without a first one", desk.choice(0), -1);
        due("one end", desk.ends(0), 1);
        due("none holds", desk.ends(1), 0);
        desk.claimOf("1 = 1");
        due("it holds", desk.run(), 0);
        due("no row", desk.ends(2), -1);
        due("no choice", desk.choice(0), -1);
        eightChoices();
        shorterRows();
    }

    private static void eightChoices() {
        TestDesk desk = new TestDesk();
        desk.cards(9);
        desk.trickOf("move a 4 to b; riffle a b to a; move a 4 to b; cut a free; cut a free; cut b free;"
                + "swap a b; cut a free; cut a free; cut a free; cut b free;");
        due("eight CHOICES", desk.count(1), 11);
        desk.claimOf("1 = 2");
        due("LARGE or not", desk.run(), 1);
        due("eight in the row", desk.ends(2), 8);
        for (int k = 0; k < 8; k++) {
            due("choice " + k, desk.choice(k), 0);
        }
        due("no ninth", desk.choice(8), -1);
        desk.trickOf("move a 4 to b; riffle a b to a; times 7 { cut a free; }");
        desk.claimOf("not card a 1 = 1 or not card a 9 = 9 or not card a 2 = 2 or not card a 4 = 4 or not card a 8 = 8"
                + " or not card a 3 = 3 or not card a 6 = 6 or not card a 5 = 5");
        due("rising is found", desk.run(), 1);
        // The first riffle that is a turn of 1 .. 9 is the first one: 5 6 7 8 9 1 2 3 4.
        due("way 0", desk.choice(0), 0);
        for (int k = 1; k < 7; k++) {
            due("cut 0 at " + k, desk.choice(k), 0);
        }
        due("cut at last", desk.choice(7), 5);
        desk.trickOf("move a 4 to b; riffle a b to c;");
        desk.claimOf("not rising c");
        due("the last riffle", desk.run(), 1);
        due("it is number 125", desk.choice(0), 125);
    }

    private static void shorterRows() {
        TestDesk desk = new TestDesk();
        desk.cards(3);
        // cut 0: 1 2 3, one CHOICE more; cut 1: 2 3 1, none more
        desk.trickOf("cut a free; if card a 1 = 1 { flip a free; }");
        desk.claimOf("up a = 0 and card a 1 = 1 or up a = 1 and not face a 3 = 1");
        due("rows of unlike length", desk.run(), 1);
        due("the longer one is ahead by its CHOICES", desk.ends(2), 2);
        due("cut 0", desk.choice(0), 0);
        due("flip the third", desk.choice(1), 2);
        desk.claimOf("up a = 1");
        desk.run();
        due("the shorter one", desk.ends(2), 1);
        due("cut 1", desk.choice(0), 1);
        // two rows to one end: [0, 1] and [1, 0]
        desk.trickOf("cut a free; cut a free;");
        desk.claimOf("not card a 1 = 2");
        desk.run();
        due("the first of all that lead there", desk.choice(0), 0);
        due("its second CHOICE", desk.choice(1), 1);
        due("it holds of the others", desk.ends(1), 2);
    }

    private static void perform() {
        TestDesk desk = new TestDesk();
        desk.cards(4);
        due("an empty trick", desk.performWith(), 0);
        desk.trickOf("cut a 1; times 2 { cut a free; if card a 1 = 1 { cut a 1; cut a 1; } } turn a free;");
        due("all of it", desk.performWith(3, 0, 4, 7), 1 + 1 + 2 * 2 + 2 + 1);
        due("the tape is empty then", desk.count(2), 0);
        due("it took three", desk.count(3), 3);
        due("so it lies", desk.piles(), "2^1^4^3^|||");
        due("a CHOICE is missing", desk.performWith(3, 0), -1 - 8);
        due("two were taken", desk.count(3), 2);
        due("it lies as ahead of that STEP", desk.piles(), "3412|||");
        due("none such within times", desk.performWith(3, 4, 0), -1 - 5);
        due("one was taken", desk.count(3), 1);
        due("the tape is empty behind that, too", desk.count(2), 0);
        due("it lies so", desk.piles(), "3412|||");
        due("none at all", desk.performWith(), -1 - 1);
        due("none taken", desk.count(3), 0);
        due("the first STEP was done", desk.piles(), "2341|||");
        desk.trickOf("times 2 { cut a 1; cut a free; }");
        due("times is not through", desk.performWith(0), -1 - 3);
        desk.trickOf("if 1 = 1 { cut a 1; cut a free; } else { cut a free; }");
        due("if is not through", desk.performWith(), -1 - 1);
        due("if is through", desk.performWith(0), 3);
        desk.trickOf("if 1 = 2 { cut a 1; }");
        due("an if that does nothing", desk.performWith(), 1);
        desk.trickOf("times 3 { times 2 { } }");
        due("times each time", desk.performWith(), 4);
        desk.tape(132, 3, 2, 1);
        desk.start();
        due("from the START", desk.performWith(), 4);
        due("with its faces", desk.piles(), "4^321|||");
        desk.trickOf("mark a 1;");
        desk.performWith();
        desk.trickOf("");
        desk.performWith();
        due("none MARKED at the START", desk.piles(), "4^321|||");
        due("the START stays", desk.startRow(), "132 3 2 1");
    }

    private static void look() {
        TestDesk desk = new TestDesk();
        due("ahead of any", desk.look(0, 1), 0);
        desk.trickOf("turn a 2; mark a 1; deal a 3 to d; mark d 2;");
        desk.performWith();
        due("up and MARKED", desk.look(3, 2), 1 + 16 + 32);
        due("up", desk.look(3, 3), 2 + 16);
        due("down", desk.look(3, 1), 3);
        due("a", desk.look(0, 5), 8);
        int[][] none = {{0, 6}, {0, 0}, {0, -1}, {1, 1}, {-1, 1}, {4, 1}, {3, 4}, {0, 16}, {0, -11},
            {Integer.MAX_VALUE, 1}, {Integer.MIN_VALUE, 1}, {0, Integer.MAX_VALUE}, {0, Integer.MIN_VALUE}};
        for (int[] n : none) {
            due("look(" + n[0] + ", " + n[1] + ")", desk.look(n[0], n[1]), 0);
        }
        desk.run();
        desk.stack(1);
        desk.tape(8, 7, 6, 5, 4, 3, 2, 1);
        desk.start();
        due("it stays", desk.look(3, 1), 3);
    }

    private static void holds() {
        TestDesk desk = new TestDesk();
        desk.claimOf("card a 1 = 8");
        due("of the START", desk.holds(), false);
        desk.tape(8, 7, 6, 5, 4, 3, 2, 1);
        desk.start();
        due("of the new START", desk.holds(), true);
        desk.trickOf("cut a 1;");
        due("the TRICK alone changes nothing", desk.holds(), true);
        desk.performWith();
        due("of what lies as PERFORMED", desk.holds(), false);
        desk.claimOf("card a 1 = 7");
        due("another CLAIM", desk.holds(), true);
        desk.tape(1, 2, 3, 4, 5, 6, 7, 8);
        desk.start();
        due("START no more", desk.holds(), true);
        desk.claimOf("value a 1 = 13");
        due("before the card is another", desk.holds(), false);
        desk.card(7, 13, 0, 0);
        due("as the cards are now", desk.holds(), true);
    }

    private static void stack() {
        TestDesk desk = new TestDesk();
        desk.cards(4);
        desk.tape(132, 131, 130, 129);
        desk.start();
        for (int looks : new int[] {0, 51, -1, Integer.MAX_VALUE, Integer.MIN_VALUE}) {
            due("stack(" + looks + ") throws", desk.stackThrows(looks), true);
            due("and changes nothing", desk.startRow(), "132 131 130 129");
        }
        desk.claimOf("card a 1 = 2 and card a 3 = 4");
        // 2 1 3 4 is number 6, 2 1 4 3 is 7, 2 3 1 4 is 8, 2 3 4 1 is 9; the first one with 4 third is 7
        due("not among seven", desk.stack(7), -1);
        due("the START stays", desk.startRow(), "132 131 130 129");
        due("among eight", desk.stack(8), 7);
        due("it is the START", desk.startRow(), "2 1 4 3");
        desk.claimOf("card a 1 = 4 and card a 2 = 3 and card a 3 = 2");
        due("the last order", desk.stack(50), 23);
        due("it is the START, too", desk.startRow(), "4 3 2 1");
        desk.claimOf("1 = 2");
        due("none of all orders", desk.stack(50), -1);
        due("it stays", desk.startRow(), "4 3 2 1");
        desk.claimOf("up a = 0");
        due("the first order", desk.stack(1), 0);
        due("face down", desk.startRow(), "1 2 3 4");
        desk.cards(9);
        desk.claimOf("card a 5 = 7 and card a 6 = 5 and card a 7 = 6");
        due("number 48 by 49", desk.stack(49), 48);
        due("the order", desk.startRow(), "1 2 3 4 7 5 6 8 9");
        desk.claimOf("card a 5 = 7 and card a 6 = 5 and card a 8 = 9");
        due("number 49 by 50", desk.stack(50), 49);
        due("that order", desk.startRow(), "1 2 3 4 7 5 6 9 8");
        desk.claimOf("card a 5 = 7 and card a 6 = 5 and card a 7 = 8");
        due("number 50 is not looked at", desk.stack(50), -1);
        stackOfChoices();
    }

    private static void stackOfChoices() {
        TestDesk desk = new TestDesk();
        desk.cards(4);
        desk.card(1, 1, 0, 0);
        desk.card(2, 2, 0, 0);
        desk.card(3, 3, 0, 1);
        desk.card(4, 4, 0, 1);
        desk.trickOf("cut a free; deal a 2 to b; riffle a b to a;");
        desk.claimOf("each 2 colour a");
        desk.run();
        int ends = desk.ends(0);
        desk.performWith(1, 0);
        int seen = desk.look(0, 1);
        // colours must alternate: 1 3 2 4 is number 2
        due("the first alternating order", desk.stack(50), 2);
        due("it", desk.startRow(), "1 3 2 4");
        due("the latest run stays", desk.ends(0), ends);
        due("what is performed stays", desk.look(0, 1), seen);
        due("now it holds", desk.run(), 0);
        desk.cards(9);
        desk.trickOf("times 4 { take a free to b; }");
        desk.claimOf("1 = 1");
        due("LARGE does not hold", desk.stack(3), -1);
        desk.trickOf("if card a 9 = 9 { times 4 { take a free to b; } }");
        due("the first one that is not LARGE", desk.stack(3), 1);
        due("its order", desk.startRow(), "1 2 3 4 5 6 7 9 8");
        desk.cards(2);
        desk.claimOf("card a 1 = 2");
        desk.trickOf("");
        due("two orders", desk.stack(2), 1);
        desk.claimOf("1 = 2");
        due("no more than two", desk.stack(50), -1);
    }

    private static void at() {
        TestDesk desk = new TestDesk();
        desk.cards(3);
        desk.tape(2, 131, 1);
        desk.start();
        due("at(1)", desk.at(1), 2);
        due("at(2)", desk.at(2), 131);
        due("at(3)", desk.at(3), 1);
        for (int k : new int[] {0, 4, -1, 9, Integer.MAX_VALUE, Integer.MIN_VALUE}) {
            due("at(" + k + ") throws", desk.atThrows(k), true);
        }
        due("it stays", desk.startRow(), "2 131 1");
    }

    private static void count() {
        TestDesk desk = new TestDesk();
        desk.trickOf("cut a 1; times 2 { cut a free; }");
        desk.performWith(1, 2, 3);
        desk.feed(0, 0, 0, 0, 0);
        due("cards", desk.count(0), 8);
        due("STEPS", desk.count(1), 3);
        due("bytes", desk.count(2), 20);
        due("CHOICES", desk.count(3), 2);
        due("count(4)", desk.count(4), -1);
        due("count(-1)", desk.count(-1), -1);
        desk.end(0);
        desk.perform();
        due("CHOICES of the latest", desk.count(3), 0);
    }
}
