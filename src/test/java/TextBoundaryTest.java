/**
 * The boundaries that the document names in "2. TRICKS" and in promises 7 to 9: for each one the value at
 * it, just inside and just outside, and what the calls behind a refused text answer.
 */
public final class TextBoundaryTest extends DeskTest {
    private static final String PILES = "abcd";
    private static final String CUT = "cut a 1;";

    public static void main(String[] args) {
        bytesThatAreTokens();
        blanksAreTwo();
        wordsOfEightLetters();
        numbersOfTwoDigits();
        wordsAndNumbersGoOn();
        signsOfTwoBytes();
        fortySteps();
        fortyStepsWithinOneAnother();
        theFortyFirstStepWithinIts();
        numbersOfMany();
        numbersOfPlaces();
        numbersOfTimes();
        numbersOfEach();
        numbersBehindPiles();
        numbersAlone();
        fourPiles();
        secondPiles();
        pilesBehindTo();
        tokensThatCannotCome();
        theFirstFaultAlongTheText();
        theLeastFaultOfOneToken();
        theEndOfTheText();
        ninehundredBytes();
        fourBraces();
        eightParentheses();
        eightNots();
        notEndsWithItsOne();
        eightChoices();
        choicesOfEachWord();
        choicesWithinTimesAndIf();
        fiveHundredSteps();
        fiveHundredStepsLikewise();
        otherFaultsGoAheadOfLength();
        whatAFaultLeaves();
        nothingOfARefusedTextIsLeft();
        longTextsOneBehindAnother();
        emptyTexts();
        faultOfTheLatest();
        finish();
    }

    /** A text that is a TRICK: its STEPS are told, the tape is empty, and there is no FAULT. */
    private static void dueSteps(String text, int steps) {
        TestDesk desk = new TestDesk();
        desk.trickOf("#");
        due("trick() of <" + text + ">", desk.trickOf(text), steps);
        due("fault() of <" + text + ">", desk.fault(), 0);
        due("STEPS of <" + text + ">", desk.count(1), steps);
        due("tape behind <" + text + ">", desk.count(2), 0);
    }

    /** A text that is no TRICK: the one ahead stays, the tape is empty, and the next text is taken. */
    private static void dueFault(String text, int kind, int place) {
        TestDesk desk = new TestDesk();
        desk.trickOf("cut a 1; cut a 2;");
        due("trick() of <" + text + ">", desk.trickOf(text), -1 - place);
        due("fault() of <" + text + ">", desk.fault(), kind);
        due("the STEPS stay behind <" + text + ">", desk.count(1), 2);
        due("tape behind <" + text + ">", desk.count(2), 0);
        desk.perform();
        due("the TRICK stays behind <" + text + ">", desk.look(0, 1), 4);
        due("a TRICK behind <" + text + ">", desk.trickOf("turn a 1;"), 1);
        due("without a FAULT", desk.fault(), 0);
        desk.perform();
        due("which is done", desk.look(0, 1), 17);
    }

    private static void dueClaim(String text, boolean holds) {
        TestDesk desk = new TestDesk();
        desk.claimOf(holds ? "1 = 2" : "1 = 1");
        due("claim() of <" + text + ">", desk.claimOf(text), 0);
        due("fault() of claim <" + text + ">", desk.fault(), 0);
        due("tape behind claim <" + text + ">", desk.count(2), 0);
        due("<" + text + "> holds", desk.holds(), holds);
    }

    private static void dueClaimFault(String text, int kind, int place) {
        TestDesk desk = new TestDesk();
        desk.claimOf("size a = 7");
        due("claim() of <" + text + ">", desk.claimOf(text), -1 - place);
        due("fault() of claim <" + text + ">", desk.fault(), kind);
        due("tape behind claim <" + text + ">", desk.count(2), 0);
        due("the CLAIM stays behind <" + text + ">", desk.holds(), false);
        due("a CLAIM behind <" + text + ">", desk.claimOf("size a = 8"), 0);
        due("without a FAULT", desk.fault(), 0);
        due("which holds", desk.holds(), true);
    }

    private static String blanks(int many) {
        return " ".repeat(many);
    }

    // ---- "TOKENS, between them blanks (32, 10) or not" ----

    private static int faultOfByte(int b) {
        if (b == ' ' || b == '\n') {
            return 0;
        }
        boolean letterOrDigit = b >= 'a' && b <= 'z' || b >= '0' && b <= '9';
        return letterOrDigit || "{}();=<>".indexOf(b) >= 0 ? 2 : 1;
    }

    /** Each byte by itself, and behind a whole text: two are blanks, the others no TOKEN or can't come. */
    private static void bytesThatAreTokens() {
        for (int b = 0; b <= 255; b++) {
            TestDesk desk = new TestDesk();
            int kind = faultOfByte(b);
            desk.tape(b);
            due("trick() of byte " + b, desk.trick(), kind == 0 ? 0 : -1);
            due("its FAULT", desk.fault(), kind);
            desk.tape(CUT + " " + (char) b);
            due("trick() with byte " + b + " behind", desk.trick(), kind == 0 ? 1 : -10);
            due("its FAULT behind", desk.fault(), kind);
            desk.tape("1 = 1 " + (char) b);
            due("claim() with byte " + b + " behind", desk.claim(), kind == 0 ? 0 : -7);
            due("the FAULT of that", desk.fault(), kind);
        }
    }

    private static void blanksAreTwo() {
        dueSteps("cut\na 1;", 1);
        dueSteps("\n cut \n\n a\n1 ; \n", 1);
        for (char other : new char[] {0, 9, 11, 12, 13, 31, 33, 127, 160}) {
            dueFault("cut a 1;" + other, 1, 8);
            dueFault("cut " + other + "a 1;", 1, 4);
            dueFault(other + CUT, 1, 0);
        }
        dueSteps("cut a 1;cut a 1;", 2);
        dueSteps("times 2{cut a 1;}if(1=1){}else{}", 3);
    }

    // ---- "WORDS: small letters, 8 at most; NUMBERS: digits, 2 at most" ----

    private static void wordsOfEightLetters() {
        dueFault("abcdefg", 2, 0);
        dueFault("abcdefgh", 2, 0);
        dueFault("abcdefghi", 1, 0);
        dueFault("cut abcdefgh 1;", 2, 4);
        dueFault("cut abcdefghi 1;", 1, 4);
        dueFault("zzzzzzzz", 2, 0);
        dueFault("zzzzzzzzz", 1, 0);
        dueFault("x".repeat(900), 1, 0);
        dueFault("rifflesa a b to c;", 2, 0);
        dueFault("cutcutcut a 1;", 1, 0);
        dueClaimFault("abcdefgh", 2, 0);
        dueClaimFault("abcdefghi", 1, 0);
    }

    private static void numbersOfTwoDigits() {
        dueSteps("cut a 9;", 1);
        dueSteps("cut a 09;", 1);
        dueSteps("cut a 00;", 1);
        dueFault("cut a 009;", 1, 6);
        dueFault("cut a 000;", 1, 6);
        dueFault("99", 2, 0);
        dueFault("100", 1, 0);
        dueFault("0".repeat(900), 1, 0);
        dueClaim("9 < 10", true);
        dueClaim("99 = 99", true);
        dueClaim("09 = 9", true);
        dueClaimFault("100 = 99", 1, 0);
        dueClaimFault("99 = 100", 1, 5);
        dueClaimFault("1 = 001", 1, 4);
    }

    // ---- "A WORD, NUMBER goes on as long as letters and digits do" ----

    private static void wordsAndNumbersGoOn() {
        dueFault("cuta 1;", 2, 0);
        dueFault("cut a1;", 1, 4);
        dueFault("cut 1a;", 1, 4);
        dueFault("cut a 1a;", 1, 6);
        dueFault("cut a 1a2;", 1, 6);
        dueFault("cut9 a 1;", 1, 0);
        dueFault("deal a 1to b;", 1, 7);
        dueFault("times2{}", 1, 0);
        dueFault("abcdefgh1", 1, 0);
        dueFault("1abcdefgh", 1, 0);
        dueFault("if1=1{}", 1, 0);
        dueSteps("if 1=1{}", 1);
        dueSteps("if 1=1{}else{}", 1);
        dueSteps("deal a 1 to b;", 1);
        dueClaimFault("1=1and 1=1", 1, 2);
        dueClaimFault("1=1 and1=1", 1, 4);
        dueClaim("1=1 and 1=1", true);
        dueClaim("(1=1)and(1=1)", true);
        dueClaim("not(1=2)", true);
        dueClaimFault("size a=8or 1=1", 1, 7);
        endCutsATokenOff();
    }

    /** What end() took away goes on with no TOKEN. */
    private static void endCutsATokenOff() {
        TestDesk desk = new TestDesk();
        desk.tape("size a = 88");
        desk.end(10);
        due("claim() of <size a = 8> out of a longer one", desk.claim(), 0);
        due("it holds", desk.holds(), true);
        desk.tape("1 >= 1");
        desk.end(3);
        due("claim() of <1 >>", desk.claim(), -4);
        due("the end can't come", desk.fault(), 2);
        desk.tape("1 != 2");
        desk.end(3);
        due("claim() of <1 !>", desk.claim(), -3);
        due("! is no TOKEN", desk.fault(), 1);
    }

    // ---- "SIGNS { } ( ) ; = != < <= > >=" ----

    private static void signsOfTwoBytes() {
        dueClaim("1=1", true);
        dueClaim("1!=1", false);
        dueClaim("1!=2", true);
        dueClaim("1<1", false);
        dueClaim("1<2", true);
        dueClaim("1<=1", true);
        dueClaim("2<=1", false);
        dueClaim("1>1", false);
        dueClaim("2>1", true);
        dueClaim("1>=1", true);
        dueClaim("1>=2", false);
        dueClaimFault("1 ! 2", 1, 2);
        dueClaimFault("1 ! = 2", 1, 2);
        dueClaimFault("1 !", 1, 2);
        dueClaimFault("1 !=", 2, 4);
        dueClaimFault("1 < = 2", 2, 4);
        dueClaimFault("1 > = 2", 2, 4);
        dueClaimFault("1 == 2", 2, 3);
        dueClaimFault("1 !== 2", 2, 4);
        dueClaimFault("1 <== 2", 2, 4);
        dueClaimFault("1 >== 2", 2, 4);
        dueClaimFault("1 =< 2", 2, 3);
        dueClaimFault("1 <> 2", 2, 3);
        dueClaimFault("1 >< 2", 2, 3);
        dueClaimFault("1 =! 2", 1, 3);
        dueClaimFault("1 =!= 2", 2, 3);
    }

    // ---- "TRICK: { STEP }, at most 40 in all, within one another too"; "4 a 41st STEP (at its WORD)" ----

    private static void fortySteps() {
        dueSteps("", 0);
        dueSteps(CUT, 1);
        dueSteps(CUT.repeat(39), 39);
        dueSteps(CUT.repeat(40), 40);
        dueFault(CUT.repeat(41), 4, 320);
        dueFault(CUT.repeat(42), 4, 320);
        dueFault(CUT.repeat(40) + "  \n" + CUT, 4, 323);
        for (String word : new String[] {"cut", "deal", "move", "take", "turn", "flip", "riffle", "faro", "down",
            "swap", "mark", "times", "if"}) {
            dueFault(CUT.repeat(40) + " " + word, 4, 321);
            // One STEP less, and what is missing behind the WORD is the FAULT.
            dueFault(CUT.repeat(39) + " " + word, 2, 313 + word.length());
        }
        dueSteps(CUT.repeat(39) + "times 2{}", 40);
        dueSteps(CUT.repeat(39) + "if 1=1{}else{}", 40);
    }

    private static void fortyStepsWithinOneAnother() {
        dueSteps("times 2{" + CUT.repeat(39) + "}", 40);
        dueFault("times 2{" + CUT.repeat(40) + "}", 4, 8 + 39 * 8);
        dueSteps("if 1=1{" + CUT.repeat(39) + "}", 40);
        dueFault("if 1=1{" + CUT.repeat(40) + "}", 4, 7 + 39 * 8);
        dueSteps("if 1=1{" + CUT.repeat(20) + "}else{" + CUT.repeat(19) + "}", 40);
        dueFault("if 1=1{" + CUT.repeat(20) + "}else{" + CUT.repeat(20) + "}", 4, 7 + 160 + 6 + 19 * 8);
        dueSteps("times 2{" + CUT.repeat(20) + "}" + CUT.repeat(19), 40);
        dueFault("times 2{" + CUT.repeat(20) + "}" + CUT.repeat(20), 4, 8 + 160 + 1 + 19 * 8);
        dueSteps("times 2{}".repeat(40), 40);
        dueFault("times 2{}".repeat(41), 4, 360);
        dueSteps("if 1=1{}".repeat(40), 40);
        dueFault("if 1=1{}".repeat(41), 4, 320);
        dueSteps("times 2{if 1=1{times 2{if 1=1{" + CUT.repeat(36) + "}}}}", 40);
        dueFault("times 2{if 1=1{times 2{if 1=1{" + CUT.repeat(37) + "}}}}", 4, 30 + 36 * 8);
    }

    /** The 41st STEP lies within the 40th one. */
    private static void theFortyFirstStepWithinIts() {
        dueFault(CUT.repeat(39) + "times 2{" + CUT + "}", 4, 320);
        dueFault(CUT.repeat(39) + "if 1=1{" + CUT + "}", 4, 319);
        dueFault(CUT.repeat(39) + "if 1=1{}else{" + CUT + "}", 4, 325);
        dueSteps(CUT.repeat(38) + "times 2{" + CUT + "}", 40);
        dueSteps(CUT.repeat(38) + "if 1=1{}else{" + CUT + "}", 40);
    }

    // ---- "NUMBERS: of MANY 0 to 9, of PLACE 1 to 9, of times 2 to 9" ----

    private static void numbersOfMany() {
        String[][] steps = {{"cut a ", ";"}, {"turn b ", ";"}, {"deal c ", " to d;"}, {"move d ", " to a;"}};
        for (String[] step : steps) {
            for (int many = 0; many <= 9; many++) {
                dueSteps(step[0] + many + step[1], 1);
                dueSteps(step[0] + "0" + many + step[1], 1);
            }
            for (int many : new int[] {10, 11, 19, 90, 99}) {
                dueFault(step[0] + many + step[1], 3, step[0].length());
            }
            dueSteps(step[0] + "all" + step[1], 1);
            dueSteps(step[0] + "free" + step[1], 1);
            dueFault(step[0] + "none" + step[1], 2, step[0].length());
        }
    }

    private static void numbersOfPlaces() {
        String[][] steps = {{"take a ", " to b;"}, {"flip b ", ";"}, {"mark c ", ";"}};
        for (String[] step : steps) {
            for (int place = 1; place <= 9; place++) {
                dueSteps(step[0] + place + step[1], 1);
                dueSteps(step[0] + "0" + place + step[1], 1);
            }
            for (String place : new String[] {"0", "00", "10", "11", "99"}) {
                dueFault(step[0] + place + step[1], 3, step[0].length());
            }
            dueSteps(step[0] + "free" + step[1], 1);
            dueFault(step[0] + "all" + step[1], 2, step[0].length());
        }
    }

    private static void numbersOfTimes() {
        for (int times = 2; times <= 9; times++) {
            dueSteps("times " + times + " { }", 1);
            dueSteps("times 0" + times + " { cut a 1; }", 2);
        }
        for (String times : new String[] {"0", "1", "00", "01", "10", "11", "20", "99"}) {
            dueFault("times " + times + " { }", 3, 6);
        }
        dueFault("times all { }", 2, 6);
        dueFault("times free { }", 2, 6);
        dueFault("times { }", 2, 6);
    }

    // ---- "NUMBER behind each 2 to 9, behind a PILE 1 to 9" ----

    private static void numbersOfEach() {
        for (int k = 2; k <= 9; k++) {
            dueClaim("each " + k + " value a", true);
            dueClaim("each 0" + k + " value a", true);
        }
        for (String k : new String[] {"0", "1", "01", "10", "11", "99"}) {
            dueClaimFault("each " + k + " value a", 3, 5);
            dueFault("if each " + k + " value a { }", 3, 8);
        }
        dueClaimFault("each free value a", 2, 5);
        dueClaimFault("each value a", 2, 5);
    }

    private static void numbersBehindPiles() {
        for (String word : new String[] {"card", "value", "suit", "colour", "face"}) {
            for (int place = 1; place <= 9; place++) {
                dueClaim(word + " b " + place + " = 0", true);
                dueClaim("0 = " + word + " b 0" + place, true);
            }
            for (String place : new String[] {"0", "00", "10", "11", "99"}) {
                dueClaimFault(word + " a " + place + " = 0", 3, word.length() + 3);
                dueClaimFault("0 = " + word + " a " + place, 3, word.length() + 7);
            }
            dueClaimFault(word + " a = 0", 2, word.length() + 3);
            dueClaimFault(word + " a free = 0", 2, word.length() + 3);
        }
        for (String word : new String[] {"size", "up", "where"}) {
            dueClaim(word + " b = 0", true);
            dueClaimFault(word + " b 1 = 0", 2, word.length() + 3);
        }
    }

    /** A NUMBER by itself may be any: 0 to 99. */
    private static void numbersAlone() {
        for (int number : new int[] {0, 1, 9, 10, 63, 64, 98, 99}) {
            dueClaim(number + " = " + number, true);
            dueClaim(number + " != " + number, false);
            dueClaim("size a < " + number, number > 8);
        }
        dueClaim("0 < 99", true);
        dueClaim("99 <= 0", false);
    }

    // ---- "PILE: a, b, c, d" ----

    private static void fourPiles() {
        for (String pile : new String[] {"a", "b", "c", "d"}) {
            dueSteps("cut " + pile + " 1;", 1);
            dueClaim("size " + pile + (pile.equals("a") ? " = 8" : " = 0"), true);
            dueClaim("alike colour " + pile, !pile.equals("a"));
            dueClaim("rising " + pile, true);
        }
        for (String other : new String[] {"e", "z", "aa", "ab", "to", "all", "free", "or"}) {
            dueFault("cut " + other + " 1;", 2, 4);
            dueFault("deal a 1 to " + other + ";", 2, 12);
            dueFault("swap a " + other + ";", 2, 7);
            dueClaimFault("size " + other + " = 1", 2, 5);
            dueClaimFault("alike suit " + other, 2, 11);
            dueClaimFault("each 2 suit " + other, 2, 12);
            dueClaimFault("rising " + other, 2, 7);
        }
    }

    // ---- "3 .. a second PILE of riffle, faro or swap that is the first one" ----

    private static void secondPiles() {
        for (char first : PILES.toCharArray()) {
            for (char second : PILES.toCharArray()) {
                String both = first + " " + second;
                if (first == second) {
                    dueFault("riffle " + both + " to a;", 3, 9);
                    dueFault("faro " + both + " to b;", 3, 7);
                    dueFault("swap " + both + ";", 3, 7);
                    continue;
                }
                dueSteps("swap " + both + ";", 1);
                for (char third : PILES.toCharArray()) {
                    dueSteps("riffle " + both + " to " + third + ";", 1);
                    dueSteps("faro " + both + " to " + third + ";", 1);
                }
            }
        }
    }

    // ---- "a PILE behind 'to' of deal, move, take, down that is the one ahead" ----

    private static void pilesBehindTo() {
        for (char from : PILES.toCharArray()) {
            for (char to : PILES.toCharArray()) {
                String[] steps = {"deal " + from + " 1 to ", "move " + from + " all to ", "take " + from + " free to ",
                    "down " + from + " to "};
                for (String step : steps) {
                    if (from == to) {
                        dueFault(step + to + ";", 3, step.length());
                    } else {
                        dueSteps(step + to + ";", 1);
                    }
                }
            }
        }
    }

    // ---- "2 a TOKEN that can't come" ----

    /** Something is left out, and what stands behind it would be right there. */
    private static void tokensThatCannotCome() {
        dueFault("cut 1;", 2, 4);
        dueFault("cut a;", 2, 5);
        dueFault("cut a 1 cut a 1;", 2, 8);
        dueFault("deal a to b;", 2, 7);
        dueFault("deal a 1 b;", 2, 9);
        dueFault("take a 1 to;", 2, 11);
        dueFault("riffle a to b;", 2, 9);
        dueFault("faro a b c;", 2, 9);
        dueFault("swap a;", 2, 6);
        dueFault("down to b;", 2, 5);
        dueFault("times { }", 2, 6);
        dueFault("times 2 }", 2, 8);
        dueFault("times 2 { cut a 1; } }", 2, 21);
        dueFault("times 2 { cut a 1; else", 2, 19);
        dueFault("if { }", 2, 3);
        dueFault("if 1=1 }", 2, 7);
        dueFault("else { }", 2, 0);
        dueFault("if 1=1 { } else }", 2, 16);
        dueFault("if 1=1 { } else if 1=1 { }", 2, 16);
        dueFault("times 2 { } else { }", 2, 12);
        dueClaimFault("alike a", 2, 6);
        dueClaimFault("alike card a", 2, 6);
        dueClaimFault("alike face a", 2, 6);
        dueClaimFault("alike size a", 2, 6);
        dueClaimFault("each 2 a", 2, 7);
        dueClaimFault("each 2 face a", 2, 7);
        dueClaimFault("each 2 card a", 2, 7);
        dueClaimFault("rising", 2, 6);
        dueClaimFault("1 and 1=1", 2, 2);
        dueClaimFault("1 or 1=1", 2, 2);
        dueClaimFault("(1) = 1", 2, 2);
        dueClaimFault("1 ; 1", 2, 2);
        dueClaimFault("1 { 1", 2, 2);
        dueClaimFault("1 1 = 1", 2, 2);
        dueClaimFault("= 1", 2, 0);
        dueClaimFault("and 1=1", 2, 0);
        dueClaimFault("1=1 not 1=1", 2, 4);
        dueClaimFault("1=1 (1=1)", 2, 4);
        dueClaimFault("()", 2, 1);
        dueClaimFault("1=1 or and 1=1", 2, 7);
        dueClaimFault("rising = 1", 2, 7);
        dueClaimFault("alike suit a = 1", 2, 13);
        dueClaimFault("else = 1", 2, 0);
        dueClaimFault("zzz = 1", 2, 0);
    }

    // ---- "FAULTS, the first along the text, of one TOKEN the least" ----

    private static void theFirstFaultAlongTheText() {
        dueFault("cut a 10; #", 3, 6);
        dueFault("cut a 1; # cut a 10;", 1, 9);
        dueFault("cut e 10;", 2, 4);
        dueFault("swap a a", 3, 7);
        dueFault("cut a 1 cut a 10;", 2, 8);
        dueFault("deal a 10 to a;", 3, 7);
        dueFault("deal a 9 to a", 3, 12);
        dueFault("times 1 { times 1 { #", 3, 6);
        dueFault("times 2 { times 1 { #", 3, 16);
        dueFault("times 2 { times 2 { #", 1, 20);
        dueFault("if card a 0 = 1 { cut a 10; }", 3, 10);
        dueFault("if card a 1 = 1 { cut a 10; }", 3, 24);
        dueFault(CUT.repeat(39) + "cut a 10;" + CUT, 3, 318);
        dueFault(CUT.repeat(40) + "cut a 10;", 4, 320);
        dueFault(CUT.repeat(40) + "# cut a 1;", 1, 320);
        dueClaimFault("card a 0 = 100", 3, 7);
        dueClaimFault("1 = 100 and card a 0 = 1", 1, 4);
        dueClaimFault("each 1 face a", 3, 5);
        dueClaimFault("each 2 face a", 2, 7);
    }

    private static void theLeastFaultOfOneToken() {
        String four = "times 2{times 2{times 2{times 2{";
        // A NUMBER that would be out of its bounds stands where none can come.
        dueFault("cut 10 a;", 2, 4);
        dueFault("times { 10", 2, 6);
        dueClaimFault("size a 10 = 1", 2, 7);
        dueClaimFault("each value 10 a", 2, 5);
        // A number of three digits is no TOKEN ahead of being out of its bounds.
        dueFault("cut a 100;", 1, 6);
        dueFault("times 100 { }", 1, 6);
        dueClaimFault("card a 100 = 1", 1, 7);
        // The same PILE again, where no PILE can come.
        dueFault("down a a;", 2, 7);
        dueFault("deal a 1 a;", 2, 9);
        dueFault("cut a a;", 2, 6);
        // Too deep, but it can't come there anyway.
        dueFault(four + "{", 2, four.length());
        dueFault(four + "cut {", 2, four.length() + 4);
        dueClaimFault("((((((((1 (", 2, 10);
        dueClaimFault("((((((((1 = (", 2, 12);
        dueClaimFault("((((((((1 = not", 2, 12);
        dueClaimFault("((((((((1 not", 2, 10);
        // A 41st one that can't come, and one that is no TOKEN.
        dueFault(CUT.repeat(39) + "times 2 cut", 2, 320);
        dueFault(CUT.repeat(40) + "else", 2, 320);
        dueFault(CUT.repeat(40) + "cutt", 2, 320);
        dueFault(CUT.repeat(40) + "abcdefghi", 1, 320);
        dueFault(CUT.repeat(40) + "cut1", 1, 320);
    }

    // ---- "2 .. (the end: how many bytes there are)" ----

    private static void theEndOfTheText() {
        String[] tokens = {"if", "not", "(", "size", "a", "=", "8", ")", "{", "deal", "a", "9", "to", "b", ";", "}",
            "else", "{", "times", "2", "{", "riffle", "a", "b", "to", "c", ";", "}", "}"};
        StringBuilder text = new StringBuilder();
        for (int i = 0; i < tokens.length - 1; i++) {
            text.append(i > 0 ? " " : "").append(tokens[i]);
            // Behind the first } of an if all may end there.
            boolean whole = i == 15;
            for (int more = 0; more <= 2 && !whole; more++) {
                dueFault(text + blanks(more), 2, text.length() + more);
            }
        }
        dueSteps(text + " }", 4);
        String[] claim = {"not", "(", "each", "2", "suit", "a", "and", "card", "b", "1", "<=", "up", "d", ")"};
        text.setLength(0);
        for (int i = 0; i < claim.length - 1; i++) {
            text.append(i > 0 ? " " : "").append(claim[i]);
            dueClaimFault(text.toString(), 2, text.length());
            dueClaimFault(text + "\n", 2, text.length() + 1);
        }
        dueClaim(text + ")", false);
    }

    private static void ninehundredBytes() {
        dueSteps(blanks(900), 0);
        dueSteps(CUT + blanks(892), 1);
        dueSteps(blanks(892) + CUT, 1);
        dueFault(blanks(893) + "cut a 1", 2, 900);
        dueFault("cut a 1" + blanks(893), 2, 900);
        dueFault(blanks(892) + "cut a 10", 3, 898);
        dueFault(blanks(899) + "#", 1, 899);
        dueFault(";".repeat(900), 2, 0);
        dueClaim(blanks(897) + "1=1", true);
        dueClaim("1=2" + blanks(897), false);
        dueClaim("1=1 and ".repeat(112) + " 1=2", false);
        dueClaim("1=2 or ".repeat(128) + " 1=1", true);
        dueClaimFault(blanks(898) + "1=", 2, 900);
        dueClaimFault(blanks(900), 2, 900);
    }

    // ---- "4 .. a { that lies in four others" ----

    private static void fourBraces() {
        String[] heads = {"times 2 {", "if 1=1 {", "if 1=1 {} else {"};
        for (String head : heads) {
            for (int deep = 1; deep <= 4; deep++) {
                dueSteps(head.repeat(deep) + "}".repeat(deep), deep);
                dueSteps(head.repeat(deep) + CUT + "}".repeat(deep), deep + 1);
            }
            String four = head.repeat(4);
            dueFault(four + "times 2 {}" + "}}}}", 4, four.length() + 8);
            dueFault(four + "if 1=1 {}" + "}}}}", 4, four.length() + 7);
            dueFault(four + "}else", 2, head.startsWith("times") || head.contains("else")
                    ? four.length() + 1 : four.length() + 5);
            dueSteps(head.repeat(3) + "times 2 {} times 2 {} if 1=1 {} else {}" + "}}}", 6);
        }
        dueSteps("times 2{}".repeat(9), 9);
        dueSteps("if 1=1{if 1=1{if 1=1{if 1=1{}else{}}else{}}else{}}else{}", 4);
        String inElse = "if 1=1{if 1=1{if 1=1{if 1=1{}else{";
        dueFault(inElse + "times 2{}}}}}", 4, inElse.length() + 7);
        // A ( of a COND is no {: both are counted by themselves.
        dueSteps("times 2{times 2{times 2{if((((((((1=1)))))))){}}}}", 4);
    }

    // ---- "4 .. a ( or 'not' (up to the end of its ONE) that lies in eight others" ----

    private static void eightParentheses() {
        for (int deep = 1; deep <= 8; deep++) {
            dueClaim("(".repeat(deep) + "1=1" + ")".repeat(deep), true);
            dueClaim("(".repeat(deep) + "1=2" + ")".repeat(deep), false);
        }
        dueClaimFault("(".repeat(9) + "1=1" + ")".repeat(9), 4, 8);
        dueClaimFault("(".repeat(10) + "1=1" + ")".repeat(10), 4, 8);
        dueClaimFault("(".repeat(900), 4, 8);
        dueClaimFault("(".repeat(8) + "1=1 and (1=1)" + ")".repeat(8), 4, 16);
        dueClaimFault("(".repeat(8) + "1=1 or (1=1)" + ")".repeat(8), 4, 15);
        dueClaimFault("(".repeat(8) + "1=1 and not 1=2" + ")".repeat(8), 4, 16);
        dueClaim("(".repeat(7) + "(1=1) and (1=1) or (1=2)" + ")".repeat(7), true);
        dueClaim("(".repeat(8) + "1=2" + ")".repeat(8) + " or " + "(".repeat(8) + "1=1" + ")".repeat(8), true);
        dueSteps("if " + "(".repeat(8) + "1=1" + ")".repeat(8) + " { if " + "(".repeat(8) + "1=1" + ")".repeat(8)
                + " { } }", 2);
        dueFault("if " + "(".repeat(9) + "1=1" + ")".repeat(9) + " { }", 4, 11);
        dueFault("if 1=1 { if " + "(".repeat(9) + "1=1" + ")".repeat(9) + " { } }", 4, 20);
        dueClaimFault("(".repeat(8) + "1=1" + ")".repeat(7), 2, 18);
        dueClaimFault("(".repeat(8) + "1=1" + ")".repeat(9), 2, 19);
    }

    private static void eightNots() {
        for (int deep = 1; deep <= 8; deep++) {
            dueClaim("not ".repeat(deep) + "1=1", deep % 2 == 0);
            dueClaim("not(".repeat(deep / 2) + "1=2" + ")".repeat(deep / 2), deep / 2 % 2 == 1);
        }
        dueClaimFault("not ".repeat(9) + "1=1", 4, 32);
        dueClaimFault("not ".repeat(10) + "1=1", 4, 32);
        dueClaimFault("not ".repeat(225), 4, 32);
        dueClaimFault("not ".repeat(8) + "(1=1)", 4, 32);
        dueClaimFault("not(".repeat(4) + "not 1=1))))", 4, 16);
        dueClaimFault("not(".repeat(4) + "(1=1)))))", 4, 16);
        dueClaimFault("(not ".repeat(4) + "not 1=1))))", 4, 20);
        dueClaim("(not ".repeat(4) + "1=1))))", true);
        dueFault("if " + "not ".repeat(9) + "1=1 { }", 4, 35);
        dueSteps("if " + "not ".repeat(8) + "1=1 { }", 1);
    }

    private static void notEndsWithItsOne() {
        String eight = "not ".repeat(8) + "1=1";
        dueClaim(eight + " and " + eight, true);
        dueClaim(eight + " or " + "not 1=1", true);
        dueClaim(eight + " and ((((((((1=1))))))))", true);
        dueClaim("not 1=2 and ".repeat(20) + "1=1", true);
        dueClaim("not (1=2) and ".repeat(20) + "1=1", true);
        dueClaim("not rising b or ".repeat(10) + "not alike suit a", true);
        // A not ahead of a ( goes on up to its ).
        dueClaimFault("not(" + "(".repeat(6) + "1=1 and (1=1)" + ")".repeat(7), 4, 18);
        dueClaim("not(" + "(".repeat(5) + "1=1 and (1=1)" + ")".repeat(6), false);
        dueClaim("not 1=2 and (" + "not ".repeat(7) + "1=1)", false);
        dueClaimFault("not 1=2 and (" + "not ".repeat(8) + "1=1)", 4, 41);
    }

    // ---- "5 more than 8 CHOICES may come .. at how many bytes there are" ----

    private static void eightChoices() {
        dueSteps("cut a free;".repeat(7), 7);
        dueSteps("cut a free;".repeat(8), 8);
        dueFault("cut a free;".repeat(9), 5, 99);
        dueFault("cut a free;".repeat(9) + " \n ", 5, 102);
        dueFault("cut a free;".repeat(40), 5, 440);
        dueFault("cut a free;".repeat(9) + blanks(801), 5, 900);
        dueSteps("cut a free;".repeat(8) + CUT.repeat(32), 40);
    }

    private static void choicesOfEachWord() {
        String[] free = {"cut a free;", "deal a free to b;", "move a free to b;", "take a free to b;", "turn a free;",
            "flip a free;", "mark a free;", "riffle a b to c;"};
        StringBuilder all = new StringBuilder();
        for (String step : free) {
            all.append(step);
            dueSteps(step.repeat(8), 8);
            dueFault(step.repeat(9), 5, step.length() * 9);
        }
        dueSteps(all.toString(), 8);
        for (String step : free) {
            dueFault(all + step, 5, all.length() + step.length());
        }
        String[] bound = {"cut a all;", "deal a all to b;", "move a 9 to b;", "take a 1 to b;", "turn a 0;",
            "flip a 1;", "mark a 9;", "faro a b to c;", "down a to b;", "swap a b;", "times 2 { }", "if 1=1 { }"};
        for (String step : bound) {
            dueSteps(all + step.repeat(9), 17);
        }
    }

    private static void choicesWithinTimesAndIf() {
        dueSteps("times 8 { cut a free; }", 2);
        dueFault("times 9 { cut a free; }", 5, 23);
        dueSteps("times 7 { cut a free; } cut a free;", 3);
        dueFault("times 8 { cut a free; } cut a free;", 5, 35);
        dueSteps("times 2 { times 4 { cut a free; } }", 3);
        dueFault("times 3 { times 3 { cut a free; } }", 5, 35);
        dueSteps("times 2 { times 2 { times 2 { cut a free; } } }", 4);
        dueFault("times 2 { times 2 { times 3 { cut a free; } } }", 5, 47);
        dueSteps("times 2 { cut a free; cut a free; times 2 { cut a free; } }", 5);
        dueFault("times 2 { cut a free; cut a free; times 3 { cut a free; } }", 5, 59);
        dueSteps("if 1=1 { times 4 { cut a free; } } else { times 4 { cut a free; } }", 5);
        dueFault("if 1=1 { times 4 { cut a free; } } else { times 5 { cut a free; } }", 5, 67);
        dueFault("if 1=1 { times 5 { cut a free; } } else { times 4 { cut a free; } }", 5, 67);
        dueSteps("times 4 { if 1=1 { cut a free; } else { riffle a b to c; } }", 4);
        dueFault("times 5 { if 1=1 { cut a free; } else { riffle a b to c; } }", 5, 60);
        // What can never come counts, too.
        dueFault("if 1=2 { times 9 { cut a free; } }", 5, 34);
        dueFault("times 9 { times 9 { times 9 { times 9 { cut a free; } } } }", 5, 59);
    }

    // ---- "6 more than 500 STEPS may be done" ----

    private static void fiveHundredSteps() {
        // 1 + 9 * (1 + 9 * 6) = 496
        String often = "times 9 { times 9 { " + CUT.repeat(6) + " } }";
        dueSteps(often, 8);
        dueSteps(often + CUT.repeat(3), 11);
        dueSteps(often + CUT.repeat(4), 12);
        dueFault(often + CUT.repeat(5), 6, often.length() + 40);
        dueFault(often + CUT.repeat(5) + "\n ", 6, often.length() + 42);
        dueFault(often + CUT.repeat(32), 6, often.length() + 256);
        due("500 STEPS are performed", deskWith(8, often + CUT.repeat(4)).perform(), 500);
        due("499 STEPS are performed", deskWith(8, often + CUT.repeat(3)).perform(), 499);
        dueFault("times 9 { times 9 { times 9 { } " + CUT.repeat(6) + " } }", 6, 84);
        dueFault("times 9{".repeat(4) + CUT.repeat(36) + "}}}}", 6, 324);
    }

    /** Each times and if is one by itself, each time; both ways of an if count. */
    private static void fiveHundredStepsLikewise() {
        // 1 + 9 * (1 + 9 * (1 + 2 * 2 + 1)) = 496
        String times = "times 9 { times 9 { times 2 { cut a 1; cut a 1; } cut a 1; } }";
        dueSteps(times + CUT.repeat(4), 10);
        dueFault(times + CUT.repeat(5), 6, times.length() + 40);
        due("times within times, each time", deskWith(8, times + CUT.repeat(4)).perform(), 500);
        // 1 + 9 * (1 + 9 * (1 + 2 + 2 + 1)) = 496, of which two of each if are not done
        String ifs = "times 9 { times 9 { if 1=1 { cut a 1; cut a 1; } else { cut a 1; cut a 1; } cut a 1; } }";
        dueSteps(ifs + CUT.repeat(4), 12);
        dueFault(ifs + CUT.repeat(5), 6, ifs.length() + 40);
        due("one way of each if", deskWith(8, ifs + CUT.repeat(4)).perform(), 500 - 162);
        dueSteps(ifs + "times 2 { cut a 1; } if 1=1 { }", 11);
        dueFault(ifs + "times 2 { cut a 1; } if 1=1 { cut a 1; }", 6, ifs.length() + 40);
        dueFault(ifs + "times 2 { cut a 1; } if 1=1 { } else { cut a 1; }", 6, ifs.length() + 49);
        dueSteps(ifs + "times 3 { cut a 1; }", 10);
        dueFault(ifs + "times 4 { cut a 1; }", 6, ifs.length() + 20);
    }

    /** "Else: 5 .. Else: 6": any other FAULT goes ahead, and 5 ahead of 6. */
    private static void otherFaultsGoAheadOfLength() {
        String nine = "cut a free;".repeat(9);
        String often = "times 9 { times 9 { times 9 { } " + CUT.repeat(6) + " } }";
        dueFault(nine + "#", 1, 99);
        dueFault(nine + "cut", 2, 102);
        dueFault(nine + "cut a 10;", 3, 105);
        dueFault(nine + CUT.repeat(32), 4, 99 + 31 * 8);
        dueFault(often + "#", 1, often.length());
        dueFault(often + "cut a 1", 2, often.length() + 7);
        dueFault(often + "swap a a;", 3, often.length() + 7);
        dueFault(often + CUT.repeat(32), 4, often.length() + 31 * 8);
        dueFault(often + nine, 5, often.length() + 99);
        dueFault(nine + often, 5, often.length() + 99);
        dueFault(often + "cut a free;".repeat(8), 6, often.length() + 88);
    }

    // ---- promises 7 to 9 ----

    /** "-1 - the place of its FAULT: it stays": all but the tape and the FAULT is as it was. */
    private static void whatAFaultLeaves() {
        String[] texts = {"#", "cut", "cut a 10;", CUT.repeat(41), "cut a free;".repeat(9),
            "times 9{times 9{" + CUT.repeat(7) + "}}"};
        for (int kind = 1; kind <= 6; kind++) {
            TestDesk desk = new TestDesk();
            desk.cards(3);
            desk.trickOf("cut a free; turn a 1;");
            desk.claimOf("card a 1 = 1");
            desk.run();
            desk.performWith(1);
            String ahead = desk.state();
            desk.trickOf(texts[kind - 1]);
            due("all behind a FAULT of kind " + kind, desk.state(), ahead.replace("fault 0", "fault " + kind));
            due("the TRICK is performed as ahead", desk.performWith(2), 2);
            due("and lies so", desk.piles(), "3^12|||");
            due("the TRICK runs as ahead", desk.run(), 1);
            due("and tells the same", desk.told(), "3 1 1: 1 -1");
        }
        TestDesk desk = new TestDesk();
        desk.claimOf("card a 1 = 2");
        String ahead = desk.state();
        String[] claims = {"#", "1 =", "card a 0 = 1", "((((((((("};
        for (int kind = 1; kind <= 4; kind++) {
            desk.claimOf(claims[kind - 1]);
            due("all behind a claim's FAULT of kind " + kind, desk.state(), ahead.replace("fault 0", "fault " + kind));
        }
    }

    /** STEPS and CONDS of a text that was refused are not seen in the next one. */
    private static void nothingOfARefusedTextIsLeft() {
        String[] refused = {"cut a free; cut a free; cut a free; cut a free; #", "cut a free;".repeat(9),
            "if 1=2 and 1=2 { cut a free; if 1=2 { cut a free; } }" + "cut a free;".repeat(7)};
        String[] taken = {"swap a b; faro a b to a; down a to b; swap a b;",
            "if 1=1 { swap a b; } swap a b; if 1=1 { cut a 1; } else { turn a 1; }"};
        String[] lie = {"24531|||", "23451|||"};
        for (String text : refused) {
            for (int i = 0; i < taken.length; i++) {
                TestDesk desk = deskWith(5, "");
                due("trick() of <" + text + ">", desk.trickOf(text) < 0, true);
                due("trick() of <" + taken[i] + "> behind it", desk.trickOf(taken[i]) > 0, true);
                due("no CHOICE is asked for", desk.perform() > 0, true);
                due("none was taken", desk.count(3), 0);
                due("it lies so", desk.piles(), lie[i]);
                due("run() has one end", desk.run(), 0);
                due("told so", desk.told(), "1 1 -1: -1");
            }
        }
        TestDesk desk = new TestDesk();
        desk.claimOf("1=1 or 1=1 or 1=1 #");
        desk.claimOf("1=2");
        due("the CLAIM that was taken", desk.holds(), false);
        desk.claimOf("1=2 and 1=2 and (");
        desk.claimOf("1=1");
        due("the other CLAIM that was taken", desk.holds(), true);
    }

    /** Texts that fill the tape, taken and refused, again and again: the last ones are read as the first. */
    private static void longTextsOneBehindAnother() {
        String many = "1=2 or ".repeat(126);
        TestDesk desk = new TestDesk();
        for (int i = 0; i < 5; i++) {
            due("a long CLAIM, time " + i, desk.claimOf(many + "1=1"), 0);
            due("it holds", desk.holds(), true);
            due("another one, time " + i, desk.claimOf(many + "1=2"), 0);
            due("it does not hold", desk.holds(), false);
        }
        desk = new TestDesk();
        for (int i = 0; i < 4; i++) {
            due("a long if, time " + i, desk.trickOf("if " + many + "1=1{cut a 1;}"), 2);
            desk.perform();
            due("it is done", desk.look(0, 1), 2);
            due("another one, time " + i, desk.trickOf("if " + many + "1=2{cut a 1;}"), 2);
            desk.perform();
            due("it is not done", desk.look(0, 1), 1);
        }
        // Ifs at the same STEP, whose CONDS stood far along the text before.
        desk = new TestDesk();
        desk.trickOf("if 1=2 or 1=2 or 1=2 { } if 1=2 or 1=2 { }");
        desk.trickOf("");
        due("a short one in the place of a long one", desk.trickOf("cut a 1; if 1=1 { cut a 1; }"), 3);
        desk.perform();
        due("is done", desk.look(0, 1), 3);
    }

    private static void emptyTexts() {
        TestDesk desk = new TestDesk();
        desk.trickOf(CUT);
        due("trick() of an empty tape", desk.trick(), 0);
        due("it is an empty TRICK", desk.count(1), 0);
        due("without a FAULT", desk.fault(), 0);
        due("performed", desk.perform(), 0);
        due("nothing was done", desk.piles(), "12345678|||");
        due("claim() of an empty tape", desk.claim(), -1);
        due("the end can't come", desk.fault(), 2);
        due("the CLAIM stays", desk.holds(), true);
        desk.tape(' ');
        due("claim() of a blank", desk.claim(), -2);
        desk.tape(' ');
        due("trick() of a blank", desk.trick(), 0);
        due("the FAULT is gone", desk.fault(), 0);
    }

    /** "The kind of the FAULT of the latest trick() or claim(); 0 without one and ahead of any." */
    private static void faultOfTheLatest() {
        TestDesk desk = new TestDesk();
        due("fault() ahead of any", desk.fault(), 0);
        desk.trickOf("cut a 10;");
        due("fault() of trick()", desk.fault(), 3);
        due("fault() again", desk.fault(), 3);
        desk.claimOf("1 = 1");
        due("claim() without one ends it", desk.fault(), 0);
        desk.claimOf("1 = #");
        due("fault() of claim()", desk.fault(), 1);
        desk.trickOf(CUT);
        due("trick() without one ends it", desk.fault(), 0);
        desk.trickOf("cut");
        desk.claimOf("each 1 suit a");
        due("the later one counts", desk.fault(), 3);
        desk.feed(0, 0, 0, 0, 0);
        desk.end(3);
        desk.start();
        desk.run();
        desk.perform();
        desk.stack(1);
        desk.stackThrows(0);
        desk.atThrows(0);
        desk.cards(4);
        desk.cards(1);
        desk.card(1, 1, 1, 1);
        due("no other call changes it", desk.fault(), 3);
    }
}
