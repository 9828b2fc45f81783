/**
 * The boundaries of the calls, promise by promise: too small, too large, empty, full, refused. A refused
 * call is made on a desk with something in every part of it, all of which must be as ahead of the call.
 */
public final class CallBoundaryTest extends DeskTest {
    private static final int[] FAR_OUT = {Integer.MIN_VALUE, Integer.MIN_VALUE + 1, -65536, -256, -129, -128, -2,
        255, 256, 257, 65536, Integer.MAX_VALUE - 1, Integer.MAX_VALUE};

    public static void main(String[] args) {
        newObject();
        lastCalls();
        feedToTheFull();
        feedRefused();
        feedHighestByteFirst();
        endOfTheTape();
        endRefused();
        cardsTwoToNine();
        cardsAsAtFirst();
        cardsForgets();
        cardsRefused();
        cardOfEachBound();
        cardRefused();
        cardsThatCome();
        startOfAnySize();
        startRefused();
        startLeaves();
        runAnswers();
        runOfOneThatBreaks();
        endsAheadOfAny();
        endsOfAnotherWhat();
        endsWithLarge();
        endsOfAnEmptyRow();
        endsOfEightChoices();
        rowsInOrder();
        oneThatGoesOnIsBehind();
        choiceOutOfTheRow();
        performWithTooFewAndTooMany();
        performStopsAheadOfTheStep();
        performCountsWhatIsThrough();
        performOfNothing();
        lookOutOfThePiles();
        lookAheadOfAny();
        holdsAheadOfAny();
        stackLooks();
        stackRefused();
        stackToTheLastOrder();
        stackLeavesTheStart();
        stackIsFaceDown();
        stackWithLarge();
        atOutOfTheStart();
        countOfAnotherWhat();
        countOfEach();
        finish();
    }

    /** Five cards, one of them another; a START with faces; a run that breaks; something performed; a tape. */
    private static TestDesk busyDesk() {
        TestDesk desk = new TestDesk();
        desk.cards(5);
        desk.card(2, 13, 3, 0);
        desk.startWith(133, 4, 3, 130, 1);
        desk.trickOf("cut a free; turn a free; mark a 1;");
        desk.claimOf("not value a 1 = 13");
        desk.run();
        desk.performWith(3, 2);
        desk.trickOf("cut a 10;");
        desk.tape(7, 7, 7);
        return desk;
    }

    private static final String BUSY = "cards 5, STEPS 3, tape 3, taken 2, fault 3, START 133 4 3 130 1,"
            + " told 30 24 2: 0 4 -1, lies 1^*25^43|||, holds true";

    private interface Call {
        boolean isRefused(TestDesk desk);
    }

    /** The call is refused, and all is as it was, the cards' properties too. */
    private static void dueRefused(String what, Call call) {
        TestDesk desk = busyDesk();
        due("all ahead of " + what, desk.state(), BUSY);
        due(what + " is refused", call.isRefused(desk), true);
        due("all behind " + what, desk.state(), BUSY);
        desk.claimOf("value a 2 = 13 and suit a 2 = 3 and colour a 2 = 0 and value a 1 = 1 and suit a 1 = 0"
                + " and colour a 1 = 0 and value a 3 = 5 and suit a 3 = 0 and colour a 3 = 0"
                + " and value a 4 = 4 and suit a 4 = 3 and colour a 4 = 1 and value a 5 = 3 and suit a 5 = 2");
        due("the cards behind " + what, desk.holds(), true);
        due("perform() behind " + what, desk.performWith(0, 0), 3);
        due("from the same START behind " + what, desk.piles(), "5^*432^1|||");
    }

    // ---- promise 1 and "at most 512 calls" ----

    private static void newObject() {
        TestDesk desk = new TestDesk();
        due("a new one", desk.state(), "cards 8, STEPS 0, tape 0, taken 0, fault 0, START 1 2 3 4 5 6 7 8,"
                + " told -1 -1 -1: -1, lies |||, holds true");
        due("at(8)", desk.at(8), 8);
        due("at(9) throws", desk.atThrows(9), true);
        due("run of a new one", desk.run(), 0);
        due("tells one end", desk.told(), "1 1 -1: -1");
        due("perform of a new one", desk.perform(), 0);
        due("lies as the START", desk.piles(), "12345678|||");
        desk.claimOf("value a 8 = 8 and suit a 8 = 3 and colour a 8 = 1 and suit a 5 = 0 and suit a 4 = 3");
        due("cards as at first", desk.holds(), true);
        due("NONE", ConjurerDesk.NONE, -1);
    }

    /** The 511th and the 512th call still answer. */
    private static void lastCalls() {
        TestDesk desk = deskWith(9, "cut a free; mark a free;");
        desk.claimOf("where a = 0");
        while (desk.callsLeft() > 3) {
            desk.run();
        }
        due("call 510", desk.run(), 1);
        due("call 511", desk.ends(0), 81);
        due("call 512", desk.choice(1), 0);
        desk = new TestDesk();
        while (desk.callsLeft() > 2) {
            desk.feed(1, 1, 1, 1, 1);
        }
        due("call 511 of feeds", desk.feed(1, 1, 1, 1, 1), -1);
        due("call 512 of feeds", desk.count(2), 900);
    }

    // ---- promise 2: feed ----

    private static void feedToTheFull() {
        TestDesk desk = new TestDesk();
        for (int size = 20; size <= 900; size += 20) {
            due("feed to " + size, desk.feed(0, 0, 0, 0, 0), size);
            due("count(2) at " + size, desk.count(2), size);
        }
        due("feed to 920", desk.feed(0, 0, 0, 0, 0), -1);
        due("none came", desk.count(2), 900);
        due("refused again", desk.feed(0, 0, 0, 0, 0), -1);
        int[][] ends = {{899, -1}, {881, -1}, {880, 900}, {879, 899}, {1, 21}, {0, 20}};
        for (int[] end : ends) {
            due("end(" + end[0] + ")", desk.end(end[0]), true);
            due("feed behind " + end[0], desk.feed(0, 0, 0, 0, 0), end[1]);
            due("count(2) behind that", desk.count(2), end[1] < 0 ? end[0] : end[1]);
            for (int size = desk.count(2); size <= 880; size += 20) {
                desk.feed(0, 0, 0, 0, 0);
            }
        }
    }

    private static void feedRefused() {
        TestDesk desk = new TestDesk();
        desk.trickOf("cut a 1;");
        desk.tape("turn a 1;" + " ".repeat(872));
        String ahead = desk.state();
        due("feed to 901", desk.feed(0x23232323, 0x23232323, 0x23232323, 0x23232323, 0x23232323), -1);
        due("all as ahead", desk.state(), ahead);
        due("the bytes are as ahead", desk.trick(), 1);
        due("without a FAULT", desk.fault(), 0);
        due("the tape can be filled again", desk.feed(0, 0, 0, 0, 0), 20);
        desk.tape(" ".repeat(880));
        due("feed to 900", desk.feed(0x20202020, 0x20202020, 0x20202020, 0x63757420, 0x6120313b), 900);
        due("all of them came", desk.trick(), 1);
        desk.perform();
        due("as they were", desk.look(0, 1), 2);
    }

    private static void feedHighestByteFirst() {
        TestDesk desk = new TestDesk();
        // "cut a 1;turn b all;\n"
        due("feed", desk.feed(0x63757420, 0x6120313b, 0x7475726e, 0x20622061, 0x6c6c3b0a), 20);
        due("twenty bytes in their order", desk.trick(), 2);
        desk.cards(9);
        due("feed of high bytes", desk.feed(0x89888786, 0x85848382, 0x81000000, -1, Integer.MIN_VALUE), 20);
        desk.end(9);
        due("bytes are 0 to 255", desk.start(), true);
        due("each in its place", desk.startRow(), "137 136 135 134 133 132 131 130 129");
        desk.tape(1);
        due("feed behind one byte", desk.feed(0x02030405, 0x06070809, 0, 0, 0), 21);
        desk.end(9);
        due("behind the tape", desk.start(), true);
        due("not ahead of it", desk.startRow(), "1 2 3 4 5 6 7 8 9");
    }

    // ---- promise 3: end ----

    private static void endOfTheTape() {
        TestDesk desk = new TestDesk();
        due("end(0) of an empty tape", desk.end(0), true);
        due("end(1) of an empty tape", desk.end(1), false);
        due("end(-1) of an empty tape", desk.end(-1), false);
        due("it is empty still", desk.count(2), 0);
        desk.feed(0, 0, 0, 0, 0);
        due("end(21) of 20", desk.end(21), false);
        due("20 stay", desk.count(2), 20);
        due("end(20) of 20", desk.end(20), true);
        due("20 are left", desk.count(2), 20);
        due("end(19) of 20", desk.end(19), true);
        due("19 are left", desk.count(2), 19);
        due("end(20) of 19", desk.end(20), false);
        due("19 stay", desk.count(2), 19);
        due("end(1) of 19", desk.end(1), true);
        due("1 is left", desk.count(2), 1);
        due("end(0) of 1", desk.end(0), true);
        due("none is left", desk.count(2), 0);
        due("end(1) of none", desk.end(1), false);
        desk.tape(" ".repeat(900));
        due("end(901) of 900", desk.end(901), false);
        due("end(900) of 900", desk.end(900), true);
        due("end(899) of 900", desk.end(899), true);
        due("899 are left", desk.count(2), 899);
        desk.tape("cut a 1;turn a 1;");
        desk.end(8);
        due("the first ones are left", desk.trick(), 1);
        desk.perform();
        due("not the last ones", desk.look(0, 1), 2);
    }

    private static void endRefused() {
        dueRefused("end(4) of three", desk -> !desk.end(4));
        dueRefused("end(-1)", desk -> !desk.end(-1));
        for (int n : FAR_OUT) {
            dueRefused("end(" + n + ")", desk -> !desk.end(n));
        }
        TestDesk desk = busyDesk();
        due("end(3) of three", desk.end(3), true);
        due("all behind end(3)", desk.state(), BUSY);
        due("end(2) of three", desk.end(2), true);
        due("all but the tape behind end(2)", desk.state(), BUSY.replace("tape 3", "tape 2"));
    }

    // ---- promise 4: cards ----

    private static void cardsTwoToNine() {
        TestDesk desk = new TestDesk();
        StringBuilder start = new StringBuilder("1");
        for (int n = 2; n <= 9; n++) {
            start.append(' ').append(n);
            due("cards(" + n + ")", desk.cards(n), true);
            due("count(0)", desk.count(0), n);
            due("START of " + n, desk.startRow(), start.toString());
            due("none behind the last", desk.atThrows(n + 1), true);
            desk.perform();
            due("the last lies", desk.look(0, n), n);
            due("and none behind it", desk.look(0, n + 1), 0);
        }
        due("cards(2) behind cards(9)", desk.cards(2), true);
        due("START of two", desk.startRow(), "1 2");
    }

    /** "at first card c has c, (c - 1) MOD 4, (c - 1) MOD 2": suits and colours go round. */
    private static void cardsAsAtFirst() {
        int[] suits = {0, 1, 2, 3, 0, 1, 2, 3, 0};
        int[] colours = {0, 1, 0, 1, 0, 1, 0, 1, 0};
        TestDesk desk = new TestDesk();
        desk.cards(9);
        for (int c = 1; c <= 9; c++) {
            desk.card(c, 13, 3 - suits[c - 1], 1 - colours[c - 1]);
        }
        due("cards(9) again", desk.cards(9), true);
        for (int c = 1; c <= 9; c++) {
            desk.claimOf("value a " + c + " = " + c + " and suit a " + c + " = " + suits[c - 1]
                    + " and colour a " + c + " = " + colours[c - 1]);
            due("card " + c + " as at first", desk.holds(), true);
        }
    }

    /** "What was told, performed is forgotten: as ahead of any run(), perform()"; nothing else is. */
    private static void cardsForgets() {
        TestDesk desk = busyDesk();
        due("cards(5) with five", desk.cards(5), true);
        due("all behind cards(5)", desk.state(), "cards 5, STEPS 3, tape 3, taken 0, fault 3, START 1 2 3 4 5,"
                + " told -1 -1 -1: -1, lies |||, holds true");
        desk = busyDesk();
        due("cards(9) with five", desk.cards(9), true);
        due("all behind cards(9)", desk.state(), "cards 9, STEPS 3, tape 3, taken 0, fault 3,"
                + " START 1 2 3 4 5 6 7 8 9, told -1 -1 -1: -1, lies |||, holds true");
        due("the TRICK stays", desk.performWith(8, 9), 3);
        desk = busyDesk();
        due("cards(2) with five", desk.cards(2), true);
        due("all behind cards(2)", desk.state(), "cards 2, STEPS 3, tape 3, taken 0, fault 3, START 1 2,"
                + " told -1 -1 -1: -1, lies |||, holds true");
        desk.claimOf("value a 2 = 2 and suit a 2 = 1 and colour a 2 = 1");
        due("card 2 as at first", desk.holds(), true);
        due("the TRICK stays, too", desk.performWith(1, 2), 3);
        due("nothing is MARKED or up at the START", desk.piles(), "1^*2^|||");
        due("run() behind", desk.run(), 1);
        due("tells of two cards", desk.ends(0), 6);
    }

    private static void cardsRefused() {
        for (int n : new int[] {1, 0, -1, 10, 11}) {
            dueRefused("cards(" + n + ")", desk -> !desk.cards(n));
        }
        for (int n : FAR_OUT) {
            dueRefused("cards(" + n + ")", desk -> !desk.cards(n));
        }
    }

    // ---- promise 5: card ----

    private static void cardOfEachBound() {
        for (int n : new int[] {2, 5, 9}) {
            for (int c : new int[] {1, 2, n - 1, n}) {
                for (int value : new int[] {1, 2, 12, 13}) {
                    for (int suit = 0; suit <= 3; suit++) {
                        dueCard(n, c, value, suit, (value + suit) % 2);
                    }
                }
            }
        }
    }

    private static void dueCard(int n, int c, int value, int suit, int colour) {
        TestDesk desk = new TestDesk();
        desk.cards(n);
        due("card(" + c + ", " + value + ", " + suit + ", " + colour + ")", desk.card(c, value, suit, colour), true);
        desk.claimOf("value a " + c + " = " + value + " and suit a " + c + " = " + suit + " and colour a " + c + " = "
                + colour + " and card a " + c + " = " + c);
        due("it has these", desk.holds(), true);
    }

    private static void cardRefused() {
        int[][] wrong = {{0, 1, 0, 0}, {6, 1, 0, 0}, {-1, 1, 0, 0}, {9, 1, 0, 0}, {2, 0, 0, 0}, {2, -1, 0, 0},
            {2, 14, 0, 0}, {2, 15, 0, 0}, {2, 1, -1, 0}, {2, 1, 4, 0}, {2, 1, 5, 0}, {2, 1, 0, -1}, {2, 1, 0, 2},
            {2, 1, 0, 3}, {5, 13, 3, 2}, {5, 14, 3, 1}, {1, 13, 4, 1}, {1, 0, 3, 1}};
        for (int[] w : wrong) {
            dueRefused("card(" + w[0] + ", " + w[1] + ", " + w[2] + ", " + w[3] + ")",
                    desk -> !desk.card(w[0], w[1], w[2], w[3]));
        }
        for (int out : FAR_OUT) {
            dueRefused("card(" + out + ", 1, 1, 1)", desk -> !desk.card(out, 1, 1, 1));
            dueRefused("card(2, " + out + ", 1, 1)", desk -> !desk.card(2, out, 1, 1));
            dueRefused("card(2, 1, " + out + ", 1)", desk -> !desk.card(2, 1, out, 1));
            dueRefused("card(2, 1, 1, " + out + ")", desk -> !desk.card(2, 1, 1, out));
        }
    }

    /** card() tells of the cards that there are; behind cards() they are as at first, all of them. */
    private static void cardsThatCome() {
        TestDesk desk = new TestDesk();
        desk.cards(2);
        due("card 3 of two", desk.card(3, 13, 3, 1), false);
        desk.cards(3);
        desk.claimOf("value a 3 = 3 and suit a 3 = 2 and colour a 3 = 0");
        due("it is as at first", desk.holds(), true);
        due("card 3 of three", desk.card(3, 13, 3, 1), true);
        due("it is another", desk.holds(), false);
        TestDesk busy = busyDesk();
        due("card() with what it has", busy.card(2, 13, 3, 0), true);
        due("changes nothing else", busy.state(), BUSY);
        due("card() with another value", busy.card(1, 13, 3, 0), true);
        due("the CLAIM looks at it now, what was told stays", busy.state(), BUSY.replace("holds true", "holds false"));
    }

    // ---- promise 6: start ----

    private static void startOfAnySize() {
        for (int n = 2; n <= 9; n++) {
            int[] row = new int[n];
            StringBuilder want = new StringBuilder();
            for (int i = 0; i < n; i++) {
                row[i] = n - i + (i % 2 == 0 ? 128 : 0);
                want.append(i > 0 ? " " : "").append(row[i]);
            }
            TestDesk desk = new TestDesk();
            desk.cards(n);
            due("start() of " + n, desk.startWith(row), true);
            due("the tape is empty then", desk.count(2), 0);
            due("it is the START", desk.startRow(), want.toString());
            int[] fewer = new int[n - 1];
            int[] more = new int[n + 1];
            for (int i = 0; i <= n; i++) {
                more[i] = i + 1;
                if (i < n - 1) {
                    fewer[i] = i + 1;
                }
            }
            dueNoStart(desk, want.toString(), fewer);
            dueNoStart(desk, want.toString(), more);
            more[n] = 0;
            dueNoStart(desk, want.toString(), more);
            more[n] = 1;
            dueNoStart(desk, want.toString(), more);
        }
    }

    private static void dueNoStart(TestDesk desk, String want, int... row) {
        StringBuilder shown = new StringBuilder();
        for (int given : row) {
            shown.append(' ').append(given);
        }
        due("start() of" + shown, desk.startWith(row), false);
        due("the tape behind" + shown, desk.count(2), 0);
        due("the START behind" + shown, desk.startRow(), want);
    }

    private static void startRefused() {
        TestDesk desk = new TestDesk();
        desk.cards(3);
        desk.startWith(2, 129, 131);
        int[][] wrong = {{}, {1}, {1, 2}, {1, 2, 3, 1}, {1, 2, 3, 4}, {1, 2, 3, 0}, {0, 1, 2}, {1, 2, 0}, {1, 2, 4},
            {4, 2, 3}, {1, 1, 2}, {1, 2, 2}, {1, 2, 1}, {1, 129, 2}, {129, 2, 1}, {131, 131, 2}, {1, 2, 128}, {1, 2, 132},
            {1, 2, 127}, {1, 2, 255}, {1, 2, 3 + 16}, {1, 2, 3 + 32}, {1, 2, 3 + 64}, {1, 2, 131 + 64}, {1, 2, 131 + 16}};
        for (int[] row : wrong) {
            if (desk.callsLeft() < 20) {
                desk = new TestDesk();
                desk.cards(3);
                desk.startWith(2, 129, 131);
            }
            dueNoStart(desk, "2 129 131", row);
        }
        desk = new TestDesk();
        desk.cards(3);
        due("all face up", desk.startWith(129, 130, 131), true);
        due("they are", desk.startRow(), "129 130 131");
        due("all face down", desk.startWith(3, 2, 1), true);
        due("they are, too", desk.startRow(), "3 2 1");
    }

    /** A START, taken or refused, leaves all else as it was. */
    private static void startLeaves() {
        TestDesk desk = busyDesk();
        due("start() of three bytes for five cards", desk.start(), false);
        due("all but the tape stays", desk.state(), BUSY.replace("tape 3", "tape 0"));
        due("start() of an empty tape", desk.start(), false);
        due("all stays", desk.state(), BUSY.replace("tape 3", "tape 0"));
        due("start() of five", desk.startWith(1, 2, 131, 4, 5), true);
        due("what was told and performed stays", desk.state(),
                BUSY.replace("tape 3", "tape 0").replace("133 4 3 130 1", "1 2 131 4 5"));
    }

    // ---- promises 10 to 12: run, ends, choice ----

    private static void runAnswers() {
        TestDesk desk = deskWith(9, "cut a free;");
        desk.claimOf("size a = 9");
        due("it holds of each", desk.run(), 0);
        due("told so", desk.told(), "9 9 -1: -1");
        desk.claimOf("size a = 8");
        due("it holds of none", desk.run(), 1);
        due("told of none", desk.told(), "9 0 1: 0 -1");
        desk.claimOf("card a 1 < 9");
        due("it holds of all but one", desk.run(), 1);
        due("told of the last one", desk.told(), "9 8 1: 8 -1");
        desk.claimOf("card a 1 > 1");
        due("it holds of all but the first", desk.run(), 1);
        due("told of the first one", desk.told(), "9 8 1: 0 -1");
        desk.claimOf("card a 1 = 1");
        due("it holds of the first alone", desk.run(), 1);
        due("told of the second one", desk.told(), "9 1 1: 1 -1");
        String ahead = desk.state();
        due("run() again", desk.run(), 1);
        due("tells the same", desk.state(), ahead);
    }

    /** Which one of nine CHOICES breaks it is told, whichever it is, and perform() with it shows so. */
    private static void runOfOneThatBreaks() {
        for (int card = 1; card <= 9; card++) {
            TestDesk desk = deskWith(9, "cut a free;");
            desk.claimOf("card a 1 != " + card);
            due("run without card " + card, desk.run(), 1);
            due("its CHOICE", desk.choice(0), card - 1);
            due("performed", desk.performWith(desk.choice(0)), 1);
            due("it does not hold", desk.holds(), false);
        }
    }

    private static void endsAheadOfAny() {
        TestDesk desk = new TestDesk();
        due("ahead of any run()", desk.told(), "-1 -1 -1: -1");
        desk.trickOf("cut a free;");
        desk.claimOf("1 = 2");
        desk.performWith(1);
        desk.stack(1);
        due("ahead of any run() still", desk.told(), "-1 -1 -1: -1");
        due("run", desk.run(), 1);
        due("told", desk.told(), "8 0 1: 0 -1");
        desk.cards(8);
        due("as ahead of any", desk.told(), "-1 -1 -1: -1");
    }

    private static void endsOfAnotherWhat() {
        for (int what : new int[] {-1, 3, 4, 10}) {
            dueRefused("ends(" + what + ")", desk -> desk.ends(what) == -1);
        }
        for (int what : FAR_OUT) {
            dueRefused("ends(" + what + ")", desk -> desk.ends(what) == -1);
        }
        TestDesk desk = busyDesk();
        due("ends(0)", desk.ends(0), 30);
        due("ends(1)", desk.ends(1), 24);
        due("ends(2)", desk.ends(2), 2);
    }

    private static void endsWithLarge() {
        TestDesk desk = deskWith(9, "cut a free;");
        desk.claimOf("1 = 2");
        desk.run();
        due("told", desk.told(), "9 0 1: 0 -1");
        desk.trickOf("times 4 { take a free to b; }");
        due("the latest run() is told still", desk.told(), "9 0 1: 0 -1");
        due("3024 ways are LARGE", desk.run(), 2);
        due("nothing is told", desk.told(), "-1 -1 -1: -1");
        due("ends(3) with LARGE", desk.ends(3), -1);
        desk.trickOf("cut a 1;");
        due("not LARGE any more", desk.run(), 1);
        due("told again", desk.told(), "1 0 0: -1");
    }

    /** Without CHOICES the row that breaks it is empty, which is not the same as none. */
    private static void endsOfAnEmptyRow() {
        TestDesk desk = deskWith(3, "cut a 1;");
        desk.claimOf("1 = 2");
        due("run", desk.run(), 1);
        due("an empty row", desk.told(), "1 0 0: -1");
        desk.claimOf("1 = 1");
        due("run that holds", desk.run(), 0);
        due("no row", desk.told(), "1 1 -1: -1");
    }

    private static void endsOfEightChoices() {
        TestDesk desk = deskWith(9, "move a 4 to b; riffle a b to a; times 7 { cut a free; }");
        desk.claimOf("1 = 2");
        due("run", desk.run(), 1);
        // 126 ways in nine turns each, but 5 .. 9 1 .. 4 and 1 .. 9 are turns of each other.
        due("a row of eight", desk.told(), "1125 0 8: 0 0 0 0 0 0 0 0 -1");
        due("choice(8)", desk.choice(8), -1);
        desk = deskWith(9, "times 7 { cut b free; } cut a free;");
        desk.claimOf("card a 1 != 9");
        desk.run();
        due("the eighth CHOICE is the last one", desk.told(), "9 8 8: 0 0 0 0 0 0 0 8 -1");
        desk = deskWith(9, "move a 4 to b; riffle a b to c; times 7 { cut b free; }");
        desk.claimOf("not rising c");
        desk.run();
        due("the first one is the last of 126", desk.told(), "126 125 8: 125 0 0 0 0 0 0 0 -1");
        desk = deskWith(9, "times 7 { cut d free; } move a 4 to b; riffle a b to c;");
        desk.claimOf("not rising c");
        desk.run();
        due("the eighth one is the last of 126", desk.told(), "126 125 8: 0 0 0 0 0 0 0 125 -1");
    }

    /** "rows are ordered by the first CHOICE in which they are unlike" */
    private static void rowsInOrder() {
        TestDesk desk = deskWith(4, "cut a free; cut a free; cut a free;");
        desk.claimOf("card a 1 != 4");
        desk.run();
        due("0 0 3 is ahead of 0 1 2 and 3 0 0", desk.told(), "4 3 3: 0 0 3 -1");
        desk = deskWith(4, "take a free to b; take a free to b; take a free to b;");
        desk.claimOf("card a 1 != 1");
        desk.run();
        due("1 1 1 leaves card 1", desk.told(), "24 18 3: 1 1 1 -1");
        desk = deskWith(4, "turn a free; cut a free;");
        desk.claimOf("not ( card a 1 = 1 and up a > 0 )");
        desk.run();
        due("1 0 turns card 1 alone", desk.told(), "20 16 2: 1 0 -1");
        // The 21 ways ahead have two cards of the first PILE at the top.
        desk = deskWith(9, "move a 2 to b; riffle a b to c;");
        desk.claimOf("card c 1 != 1 and card c 2 != 1");
        desk.run();
        due("number 21 is the first one with 1 at PLACE 2", desk.told(), "36 21 1: 21 -1");
    }

    private static void oneThatGoesOnIsBehind() {
        // cut 0 has no more CHOICES; cut 1 has one more
        TestDesk desk = deskWith(2, "cut a free; if card a 1 = 2 { flip a free; }");
        desk.claimOf("1 = 2");
        due("run", desk.run(), 1);
        due("the shorter row is the first one", desk.told(), "3 0 1: 0 -1");
        desk.claimOf("up a = 0");
        desk.run();
        due("the longer rows alone break it", desk.told(), "3 1 2: 1 0 -1");
        // cut 0 has two more CHOICES, yet it is ahead of cut 1 without any
        desk = deskWith(2, "cut a free; if card a 1 = 1 { flip a free; mark a free; }");
        desk.claimOf("1 = 2");
        desk.run();
        due("the longer row is the first one", desk.told(), "5 0 3: 0 0 0 -1");
        // Two rows of unlike length come to lie alike: 0 1 and 1.
        desk = deskWith(2, "cut a free; if card a 1 = 1 { cut a free; }");
        desk.claimOf("card a 1 = 1");
        desk.run();
        due("0 1 is ahead of 1", desk.told(), "2 1 2: 0 1 -1");
        // Two rows of unlike length come to lie alike: 0 and 1 1.
        desk = deskWith(2, "cut a free; if card a 1 = 2 { cut a free; }");
        desk.claimOf("card a 1 = 2");
        desk.run();
        due("0 is ahead of 1 1", desk.told(), "2 1 1: 0 -1");
    }

    private static void choiceOutOfTheRow() {
        for (int k : new int[] {-1, 2, 3, 7, 8, 9, 16}) {
            dueRefused("choice(" + k + ")", desk -> desk.choice(k) == -1);
        }
        for (int k : FAR_OUT) {
            dueRefused("choice(" + k + ")", desk -> desk.choice(k) == -1);
        }
        TestDesk desk = busyDesk();
        due("choice(0)", desk.choice(0), 0);
        due("choice(1)", desk.choice(1), 4);
    }

    // ---- promise 13: perform ----

    private static void performWithTooFewAndTooMany() {
        TestDesk desk = deskWith(4, "cut a free; deal a free to b; mark a free;");
        due("without CHOICES", desk.performWith(), -1);
        due("none taken", desk.count(3), 0);
        due("it lies as the START", desk.piles(), "1234|||");
        due("with one", desk.performWith(1), -2);
        due("one taken", desk.count(3), 1);
        due("it lies behind the first STEP", desk.piles(), "2341|||");
        due("with two", desk.performWith(1, 2), -3);
        due("two taken", desk.count(3), 2);
        due("it lies behind the second STEP", desk.piles(), "41|32||");
        due("with three", desk.performWith(1, 2, 1), 3);
        due("three taken", desk.count(3), 3);
        due("it lies behind all", desk.piles(), "41*|32||");
        due("with four", desk.performWith(1, 2, 1, 0), 3);
        due("three taken of four", desk.count(3), 3);
        due("the tape is empty of the fourth, too", desk.count(2), 0);
        desk.tape(" ".repeat(900));
        due("with 900 that are none such", desk.perform(), -1);
        due("the tape is empty of them", desk.count(2), 0);
        desk.tape("\0".repeat(900));
        due("with 900", desk.perform(), 3);
        due("three taken of 900", desk.count(3), 3);
        due("the tape is empty of these", desk.count(2), 0);
    }

    private static void performStopsAheadOfTheStep() {
        TestDesk desk = deskWith(3, "mark a 2; cut a free; turn a free; flip a 1;");
        due("the last CHOICES", desk.performWith(2, 3), 4);
        due("lie so", desk.piles(), "2*1^3^|||");
        due("none such at first", desk.performWith(3, 3), -2);
        due("none taken", desk.count(3), 0);
        due("the tape is empty", desk.count(2), 0);
        due("it ends ahead of it", desk.piles(), "12*3|||");
        due("none such as second", desk.performWith(2, 4), -3);
        due("one taken", desk.count(3), 1);
        due("it ends ahead of that", desk.piles(), "312*|||");
        due("holds() looks at that", desk.holds(), true);
        desk.claimOf("card a 1 = 3");
        due("holds() of what lies there", desk.holds(), true);
        desk.claimOf("card a 1 = 1");
        due("not of the START", desk.holds(), false);
        due("255 is none such", desk.performWith(255), -2);
        due("128 is none such", desk.performWith(128, 0), -2);
    }

    /** "those of if and times when their { } are through, each time they are done" */
    private static void performCountsWhatIsThrough() {
        TestDesk desk = deskWith(3, "times 3 { cut a 1; cut a free; }");
        due("stuck in the first time", desk.performWith(), -1 - 1);
        due("stuck in the second time", desk.performWith(0), -1 - 3);
        due("stuck in the third time", desk.performWith(0, 0), -1 - 5);
        due("through", desk.performWith(0, 0, 0), 7);
        desk.trickOf("times 2 { times 2 { cut a free; } }");
        due("stuck in the inner one", desk.performWith(0), -1 - 1);
        due("stuck where one inner one is through", desk.performWith(0, 0), -1 - 3);
        due("stuck in the second inner one", desk.performWith(0, 0, 0), -1 - 4);
        due("all through", desk.performWith(0, 0, 0, 0), 7);
        desk.trickOf("if card a 1 = 1 { cut a 1; cut a free; } else { cut a free; }");
        due("stuck in the if", desk.performWith(), -1 - 1);
        due("the if is through", desk.performWith(0), 3);
        desk.startWith(2, 1, 3);
        due("stuck in the else", desk.performWith(), -1 - 0);
        due("the else is through", desk.performWith(0), 2);
        desk.trickOf("if 1 = 2 { cut a free; }");
        due("an if with nothing to do", desk.performWith(), 1);
        desk.trickOf("times 9 { }");
        due("a times with nothing to do", desk.performWith(), 1);
        desk.trickOf("times 9 { times 9 { } }");
        due("nine of these", desk.performWith(), 10);
    }

    private static void performOfNothing() {
        TestDesk desk = new TestDesk();
        due("an empty TRICK", desk.perform(), 0);
        due("it lies as the START", desk.piles(), "12345678|||");
        desk.tape(1, 2, 3);
        due("an empty TRICK with CHOICES", desk.perform(), 0);
        due("takes none", desk.count(3), 0);
        due("but empties the tape", desk.count(2), 0);
        desk.trickOf("cut a free;");
        desk.performWith(3);
        due("one taken", desk.count(3), 1);
        due("one that is refused takes none", desk.performWith(8), -1);
        due("of the latest perform()", desk.count(3), 0);
        TestDesk busy = busyDesk();
        String ahead = busy.told();
        due("7 7 7 is none such", busy.perform(), -1);
        due("the START stays", busy.startRow(), "133 4 3 130 1");
        due("what was told stays", busy.told(), ahead);
        due("the FAULT stays", busy.fault(), 3);
        due("it lies as the START", busy.piles(), "5^432^1|||");
    }

    // ---- promises 14 and 15: look, holds ----

    private static void lookOutOfThePiles() {
        TestDesk desk = deskWith(4, "flip a 1; mark a 2; move a 1 to b; move a 1 to c; move a 1 to d; flip d 1;");
        desk.perform();
        due("look(0, 1)", desk.look(0, 1), 4);
        due("look(1, 1)", desk.look(1, 1), 1 + 16);
        due("look(2, 1)", desk.look(2, 1), 2 + 32);
        due("look(3, 1)", desk.look(3, 1), 3 + 16);
        for (int p = 0; p < 4; p++) {
            due("look(" + p + ", 0)", desk.look(p, 0), 0);
            due("look(" + p + ", 2)", desk.look(p, 2), 0);
            due("look(" + p + ", -1)", desk.look(p, -1), 0);
        }
        due("look(-1, 1)", desk.look(-1, 1), 0);
        due("look(4, 1)", desk.look(4, 1), 0);
        for (int out : FAR_OUT) {
            due("look(" + out + ", 1)", desk.look(out, 1), 0);
            due("look(0, " + out + ")", desk.look(0, out), 0);
            due("look(" + out + ", " + out + ")", desk.look(out, out), 0);
        }
        desk = deskWith(9, "turn a all; mark a 9;");
        desk.perform();
        due("the last of nine", desk.look(0, 9), 1 + 16 + 32);
        due("the last but one", desk.look(0, 8), 2 + 16);
        due("none behind", desk.look(0, 10), 0);
        due("none in b", desk.look(1, 1), 0);
        dueRefused("look(0, 6)", busy -> busy.look(0, 6) == 0);
        dueRefused("look(4, 1)", busy -> busy.look(4, 1) == 0);
    }

    private static void lookAheadOfAny() {
        TestDesk desk = new TestDesk();
        due("ahead of any", desk.piles(), "|||");
        desk.trickOf("cut a 1;");
        desk.run();
        desk.stack(1);
        due("no other call performs", desk.piles(), "|||");
        desk.perform();
        due("performed", desk.piles(), "23456781|||");
        desk.startWith(8, 7, 6, 5, 4, 3, 2, 1);
        desk.trickOf("");
        desk.run();
        desk.stack(2);
        due("it stays", desk.piles(), "23456781|||");
        desk.cards(8);
        due("as ahead of any", desk.piles(), "|||");
        due("look(0, 1) then", desk.look(0, 1), 0);
    }

    private static void holdsAheadOfAny() {
        TestDesk desk = deskWith(3, "cut a 1;");
        desk.claimOf("card a 1 = 1");
        due("of the START", desk.holds(), true);
        desk.startWith(2, 1, 131);
        due("of another START", desk.holds(), false);
        desk.claimOf("up a = 1 and face a 3 = 1 and where a = 0");
        due("with its faces", desk.holds(), true);
        desk.run();
        desk.claimOf("card a 1 = 2");
        due("run() performs nothing", desk.holds(), true);
        desk.perform();
        due("of what was performed", desk.holds(), false);
        desk.claimOf("card a 1 = 1");
        due("that has 1 at the top", desk.holds(), true);
        desk.cards(3);
        desk.claimOf("card a 1 = 1 and card a 3 = 3 and up a = 0");
        due("of the START behind cards()", desk.holds(), true);
        desk.claimOf("card a 1 = 2");
        due("not of what was performed", desk.holds(), false);
        desk.trickOf("");
        due("stack() finds another START", desk.stack(3), 2);
        due("holds() of the START that was found", desk.holds(), true);
    }

    // ---- promise 16: stack ----

    /** Number k of the orders is found by k + 1 looks, not by k. */
    private static void stackLooks() {
        TestDesk desk = new TestDesk();
        desk.cards(9);
        desk.claimOf("card a 1 = 1");
        due("stack(1)", desk.stack(1), 0);
        due("stack(50)", desk.stack(50), 0);
        desk.claimOf("card a 9 = 8");
        due("number 1 by one look", desk.stack(1), -1);
        due("number 1 by two looks", desk.stack(2), 1);
        due("it", desk.startRow(), "1 2 3 4 5 6 7 9 8");
        desk.claimOf("card a 8 = 7");
        due("number 2 by two looks", desk.stack(2), -1);
        due("the START stays", desk.startRow(), "1 2 3 4 5 6 7 9 8");
        due("number 2 by three looks", desk.stack(3), 2);
        due("it is the START", desk.startRow(), "1 2 3 4 5 6 8 7 9");
        desk.claimOf("card a 5 = 7 and card a 6 = 5 and card a 7 = 6 and card a 8 = 8");
        due("number 48 by 48 looks", desk.stack(48), -1);
        due("number 48 by 49 looks", desk.stack(49), 48);
        due("its order", desk.startRow(), "1 2 3 4 7 5 6 8 9");
        desk.claimOf("card a 5 = 7 and card a 6 = 5 and card a 7 = 6 and card a 8 = 9");
        due("number 49 by 49 looks", desk.stack(49), -1);
        due("number 49 by 50 looks", desk.stack(50), 49);
        due("its order, too", desk.startRow(), "1 2 3 4 7 5 6 9 8");
        desk.claimOf("card a 5 = 7 and card a 6 = 5 and card a 7 = 8 and card a 8 = 6");
        due("number 50 by 50 looks", desk.stack(50), -1);
        due("that START stays", desk.startRow(), "1 2 3 4 7 5 6 9 8");
    }

    private static void stackRefused() {
        for (int looks : new int[] {0, -1, 51, 52}) {
            dueRefused("stack(" + looks + ")", desk -> desk.stackThrows(looks));
        }
        for (int looks : FAR_OUT) {
            dueRefused("stack(" + looks + ")", desk -> desk.stackThrows(looks));
        }
        TestDesk desk = new TestDesk();
        due("stack(1) throws not", desk.stackThrows(1), false);
        due("stack(50) throws not", desk.stackThrows(50), false);
        due("stack(0) of a new one throws", desk.stackThrows(0), true);
        due("stack(51) of a new one throws", desk.stackThrows(51), true);
    }

    /** Fewer orders than looks: all of them are looked at, in rising order, and then there is none. */
    private static void stackToTheLastOrder() {
        int[] orders = {2, 6, 24};
        for (int n = 2; n <= 4; n++) {
            TestDesk desk = new TestDesk();
            desk.cards(n);
            StringBuilder falling = new StringBuilder("card a 1 = " + n);
            StringBuilder start = new StringBuilder("" + n);
            for (int place = 2; place <= n; place++) {
                falling.append(" and card a ").append(place).append(" = ").append(n + 1 - place);
                start.append(' ').append(n + 1 - place);
            }
            desk.claimOf(falling.toString());
            int last = orders[n - 2] - 1;
            due("the last order by one look less, of " + n, desk.stack(last), -1);
            due("the last order of " + n, desk.stack(last + 1), last);
            due("it is the START", desk.startRow(), start.toString());
            due("the last order by 50 looks", desk.stack(50), last);
            desk.claimOf("1 = 2");
            due("none of all orders by just as many looks", desk.stack(last + 1), -1);
            due("none of all orders by one look more", desk.stack(last + 2), -1);
            due("none of all orders by 50 looks", desk.stack(50), -1);
            due("the START stays", desk.startRow(), start.toString());
        }
        everyOrderOfThree();
    }

    private static void everyOrderOfThree() {
        String[] orders = {"1 2 3", "1 3 2", "2 1 3", "2 3 1", "3 1 2", "3 2 1"};
        for (int number = 0; number < orders.length; number++) {
            TestDesk desk = new TestDesk();
            desk.cards(3);
            String[] cards = orders[number].split(" ");
            desk.claimOf("card a 1 = " + cards[0] + " and card a 2 = " + cards[1]);
            due("the number of " + orders[number], desk.stack(50), number);
            due("the START", desk.startRow(), orders[number]);
        }
    }

    private static void stackLeavesTheStart() {
        TestDesk desk = busyDesk();
        desk.claimOf("size b = 1");
        String ahead = desk.state();
        due("none among 50", desk.stack(50), -1);
        due("all stays", desk.state(), ahead);
        desk.claimOf("size b = 0");
        ahead = desk.state();
        due("the first one", desk.stack(1), 0);
        due("all but the START stays", desk.state(), ahead.replace("START 133 4 3 130 1", "START 1 2 3 4 5"));
        desk = busyDesk();
        due("none by one look", desk.stack(1), -1);
        due("all stays then, too", desk.state(), BUSY);
    }

    /** The orders are all face down, whatever the START has. */
    private static void stackIsFaceDown() {
        TestDesk desk = new TestDesk();
        desk.cards(3);
        desk.startWith(129, 130, 131);
        desk.claimOf("up a > 0");
        due("none has a face up", desk.stack(6), -1);
        due("the START stays", desk.startRow(), "129 130 131");
        desk.claimOf("up a = 0");
        due("the first one", desk.stack(1), 0);
        due("it is face down", desk.startRow(), "1 2 3");
        desk.startWith(131, 130, 129);
        desk.trickOf("turn a free;");
        desk.claimOf("not ( card a 1 = 1 and up a = 0 )");
        due("the first one without 1 at the top", desk.stack(6), 2);
        due("face down, too", desk.startRow(), "2 1 3");
        due("from there it holds of each", desk.run(), 0);
    }

    private static void stackWithLarge() {
        TestDesk desk = deskWith(9, "times 4 { take a free to b; }");
        due("LARGE", desk.run(), 2);
        due("with LARGE it does not hold", desk.stack(1), -1);
        due("the START stays", desk.startRow(), "1 2 3 4 5 6 7 8 9");
        desk.trickOf("if card a 9 = 9 { times 4 { take a free to b; } }");
        due("number 1 is not LARGE, by one look", desk.stack(1), -1);
        due("number 1 is not LARGE, by two looks", desk.stack(2), 1);
        due("its order", desk.startRow(), "1 2 3 4 5 6 7 9 8");
        desk.trickOf("if card a 9 = 8 { times 4 { take a free to b; } }");
        due("number 0 is not LARGE", desk.stack(2), 0);
        desk = deskWith(8, "times 4 { take a free to b; }");
        due("1680 ways are not LARGE", desk.stack(1), 0);
    }

    // ---- promises 17 and 18: at, count ----

    private static void atOutOfTheStart() {
        for (int n = 2; n <= 9; n++) {
            TestDesk desk = new TestDesk();
            desk.cards(n);
            due("at(0) of " + n, desk.atThrows(0), true);
            due("at(1) of " + n, desk.at(1), 1);
            due("at(2) of " + n, desk.at(2), 2);
            due("at(last) of " + n, desk.at(n), n);
            due("at(last + 1) of " + n, desk.atThrows(n + 1), true);
            due("at(9) of " + n, desk.atThrows(9), n < 9);
        }
        for (int k : new int[] {0, -1, 6, 7, 9, 10}) {
            dueRefused("at(" + k + ")", desk -> desk.atThrows(k));
        }
        for (int k : FAR_OUT) {
            dueRefused("at(" + k + ")", desk -> desk.atThrows(k));
        }
        TestDesk desk = new TestDesk();
        desk.cards(9);
        desk.startWith(137, 8, 7, 6, 5, 4, 3, 2, 129);
        due("the highest card up", desk.at(1), 137);
        due("the lowest card up", desk.at(9), 129);
        due("one down", desk.at(8), 2);
    }

    private static void countOfAnotherWhat() {
        for (int what : new int[] {-1, 4, 5}) {
            dueRefused("count(" + what + ")", desk -> desk.count(what) == -1);
        }
        for (int what : FAR_OUT) {
            dueRefused("count(" + what + ")", desk -> desk.count(what) == -1);
        }
    }

    private static void countOfEach() {
        TestDesk desk = busyDesk();
        due("count(0)", desk.count(0), 5);
        due("count(1)", desk.count(1), 3);
        due("count(2)", desk.count(2), 3);
        due("count(3)", desk.count(3), 2);
        desk.trickOf("cut a 1;".repeat(40));
        due("40 STEPS", desk.count(1), 40);
        due("an empty tape", desk.count(2), 0);
        due("of the latest perform() still", desk.count(3), 2);
        desk.perform();
        due("none taken", desk.count(3), 0);
        desk.trickOf("cut a free;".repeat(8));
        due("eight CHOICES performed", desk.performWith(0, 1, 2, 3, 4, 0, 1, 2), 8);
        due("eight taken", desk.count(3), 8);
        due("seven of eight", desk.performWith(0, 1, 2, 3, 4, 0, 1), -8);
        due("seven taken", desk.count(3), 7);
        due("the eighth is none such", desk.performWith(0, 1, 2, 3, 4, 0, 1, 5), -8);
        due("seven taken again", desk.count(3), 7);
        desk.trickOf("");
        due("no STEP", desk.count(1), 0);
    }
}
