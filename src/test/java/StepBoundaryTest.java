/**
 * The boundaries that the document names in "3. WHAT STEPS DO": PILES that are empty or have fewer cards
 * than told, the first and the last CHOICE and the one behind it, PLACES without a card, and LARGE.
 */
public final class StepBoundaryTest extends DeskTest {
    public static void main(String[] args) {
        fewerCardsThanTold();
        manyOfAnEmptyPile();
        takeFlipAndMarkAtTheLastPlace();
        placesOfAnEmptyPile();
        markIsOne();
        faroOfAnySizes();
        riffleOfEmptyPiles();
        downToTheLast();
        swapWithEmptyPiles();
        timesAndIf();
        fortyStepsAreDone();
        timesFourDeep();
        ifsFourDeep();
        choicesOfMany();
        choicesOfCut();
        choicesOfPlaces();
        choicesOfEmptyPiles();
        choicesOfRiffles();
        riffleWaysInOrder();
        choicesAreBytes();
        numbersOfPiles();
        whereOfTheMarked();
        placesWithoutACard();
        alikeOfFew();
        eachOfGroups();
        eachLooksFromTheTop();
        risingOfFew();
        endsAreUnlike();
        largeBehindOneStep();
        largeInTheMiddle();
        largeOfTimes();
        largeOfBothWays();
        largeWithinOneWay();
        finish();
    }

    /** The cards from .. to in their order. */
    private static String row(int from, int to) {
        StringBuilder shown = new StringBuilder();
        for (int c = from; c <= to; c++) {
            shown.append(c);
        }
        return shown.toString();
    }

    private static String reversed(int from, int to, String face) {
        StringBuilder shown = new StringBuilder();
        for (int c = to; c >= from; c--) {
            shown.append(c).append(face);
        }
        return shown.toString();
    }

    // ---- "A PILE that has fewer cards than told gives all." ----

    private static void fewerCardsThanTold() {
        for (int n = 2; n <= 9; n++) {
            for (int told = 0; told <= 9; told++) {
                dueMany(n, Integer.toString(told), Math.min(told, n));
            }
            dueMany(n, "all", n);
        }
    }

    private static void dueMany(int n, String told, int given) {
        String rest = row(given + 1, n);
        String of = " " + told + " of " + n;
        due("cut" + of, after(n, "cut a " + told + ";"), rest + row(1, given) + "|||");
        due("deal" + of, after(n, "deal a " + told + " to b;"), rest + "|" + reversed(1, given, "") + "||");
        due("move" + of, after(n, "move a " + told + " to c;"), rest + "||" + row(1, given) + "|");
        due("turn" + of, after(n, "turn a " + told + ";"), reversed(1, given, "^") + rest + "|||");
    }

    private static void manyOfAnEmptyPile() {
        for (String told : new String[] {"0", "1", "9", "all"}) {
            due("cut " + told + " of none", after(3, "cut b " + told + ";"), "123|||");
            due("turn " + told + " of none", after(3, "turn b " + told + ";"), "123|||");
            due("deal " + told + " of none", after(3, "deal b " + told + " to a;"), "123|||");
            due("move " + told + " of none", after(3, "move b " + told + " to a;"), "123|||");
        }
        due("cut of one", after(2, "move a 1 to b; cut b 1;"), "2|1||");
        due("turn of one", after(2, "move a 1 to b; turn b 1;"), "2|1^||");
        due("onto nine cards", after(9, "move a 8 to b; deal a 1 to b; move b all to a;"), "912345678|||");
    }

    // ---- "take: .. nothing, if there is none"; flip and mark likewise ----

    private static void takeFlipAndMarkAtTheLastPlace() {
        for (int n = 2; n <= 9; n++) {
            due("take 1 of " + n, after(n, "take a 1 to b;"), row(2, n) + "|1||");
            due("take the last of " + n, after(n, "take a " + n + " to b;"), row(1, n - 1) + "|" + n + "||");
            due("flip 1 of " + n, after(n, "flip a 1;"), "1^" + row(2, n) + "|||");
            due("flip the last of " + n, after(n, "flip a " + n + ";"), row(1, n) + "^|||");
            due("mark 1 of " + n, after(n, "mark a 1;"), "1*" + row(2, n) + "|||");
            due("mark the last of " + n, after(n, "mark a " + n + ";"), row(1, n) + "*|||");
            for (int place = n + 1; place <= 9; place++) {
                due("take " + place + " of " + n, after(n, "take a " + place + " to b;"), row(1, n) + "|||");
                due("flip " + place + " of " + n, after(n, "flip a " + place + ";"), row(1, n) + "|||");
                due("mark " + place + " of " + n, after(n, "mark a 1; mark a " + place + ";"),
                        "1*" + row(2, n) + "|||");
            }
        }
        due("flip the last but one", after(3, "flip a 2;"), "12^3|||");
        due("flip twice", after(3, "flip a 3; flip a 3;"), "123|||");
        due("take onto a card", after(3, "take a 3 to b; take a 2 to b;"), "1|23||");
    }

    private static void placesOfAnEmptyPile() {
        due("take of none", after(3, "take b 1 to a;"), "123|||");
        due("flip of none", after(3, "flip b 1;"), "123|||");
        due("mark of none", after(3, "mark b 1;"), "123|||");
        due("a mark stays with mark of none", after(3, "mark a 2; mark b 1;"), "12*3|||");
        due("what has left is not there", after(2, "move a all to b; flip a 1; mark a 1; take a 1 to c;"), "|12||");
        TestDesk desk = deskWith(3, "take b 1 to a; flip c 9; mark d 1;");
        due("they are done all the same", desk.perform(), 3);
    }

    private static void markIsOne() {
        due("the MARKED one is none other", after(3, "mark a 1; mark a 3;"), "123*|||");
        due("marked again", after(3, "mark a 3; mark a 3;"), "123*|||");
        due("marked in another PILE", after(3, "mark a 1; move a 1 to b; mark a 1;"), "2*3|1||");
        TestDesk desk = deskWith(3, "mark a 1;");
        desk.perform();
        desk.trickOf("");
        desk.perform();
        due("none is MARKED at the START", desk.piles(), "123|||");
    }

    // ---- riffle, faro, down, swap with empty PILES and unlike sizes ----

    private static void faroOfAnySizes() {
        for (int n = 2; n <= 9; n++) {
            for (int second = 0; second <= n; second++) {
                StringBuilder want = new StringBuilder();
                int first = n - second;
                for (int i = 1; i <= n; i++) {
                    want.append(i <= first ? "" + (second + i) : "").append(i <= second ? "" + i : "");
                }
                String text = "move a " + second + " to b; faro a b to ";
                due("faro of " + first + " and " + second, after(n, text + "c;"), "||" + want + "|");
                due("faro to the first", after(n, text + "a;"), want + "|||");
                due("faro to the second", after(n, text + "b;"), "|" + want + "||");
            }
        }
        due("faro of two empty ones", after(3, "faro b c to d;"), "123|||");
        due("faro of two empty ones onto cards", after(3, "faro b c to a;"), "123|||");
        due("faro onto a card", after(3, "move a 1 to c; move a 1 to b; faro b a to c;"), "||231|");
    }

    private static void riffleOfEmptyPiles() {
        due("riffle with an empty second one", after(3, "riffle a b to c;", 0), "||123|");
        due("riffle with an empty first one", after(3, "riffle b a to c;", 0), "||123|");
        due("riffle of two empty ones", after(3, "riffle b c to d;", 0), "123|||");
        due("riffle of two empty ones onto cards", after(3, "riffle b c to a;", 0), "123|||");
        due("there is one way alone", after(3, "riffle a b to c;", 1), "stuck behind 0: 123|||");
        due("one way alone again", after(3, "riffle b a to c;", 1), "stuck behind 0: 123|||");
        due("and of none", after(3, "riffle b c to d;", 1), "stuck behind 0: 123|||");
        due("riffle onto a card", after(3, "move a 1 to c; move a 1 to b; riffle b a to c;", 1), "||321|");
    }

    private static void downToTheLast() {
        String[] wants = {"21", "231", "4231", "24531", "462531", "6247531", "84627531", "268497531"};
        for (int n = 2; n <= 9; n++) {
            due("down of " + n, after(n, "down a to b;"), "|" + wants[n - 2] + "||");
        }
        due("down of none", after(3, "down b to a;"), "123|||");
        due("down of one", after(2, "move a 1 to b; down b to c;"), "2||1|");
        due("down of one onto a card", after(2, "move a 1 to b; down b to a;"), "12|||");
        due("down of two onto a card", after(3, "move a 2 to b; down b to a;"), "213|||");
    }

    private static void swapWithEmptyPiles() {
        due("swap with an empty one", after(3, "swap a b;"), "|123||");
        due("swap of an empty one", after(3, "swap b a;"), "|123||");
        due("swap of two empty ones", after(3, "swap c d;"), "123|||");
        due("swap of unlike sizes", after(5, "move a 1 to d; swap a d;"), "1|||2345");
        due("swap of like sizes", after(4, "move a 2 to b; swap b a;"), "12|34||");
        due("swap of nine", after(9, "swap a d; swap d c;"), "||123456789|");
        due("swap twice", after(3, "move a 1 to b; swap a b; swap a b;"), "23|1||");
    }

    private static void timesAndIf() {
        for (int times = 2; times <= 9; times++) {
            due("times " + times, after(9, "times " + times + " { cut a 1; }"),
                    row(times + 1, 9) + row(1, Math.min(times, 9)) + "|||");
            due("times " + times + " of nothing", deskWith(3, "times " + times + " { }").perform(), 1);
        }
        due("an if with nothing in it", after(3, "if 1=1 { } cut a 1;"), "231|||");
        due("an else with nothing in it", after(3, "if 1=2 { cut a 1; } else { } cut a 1;"), "231|||");
        due("no else", after(3, "if 1=2 { cut a 1; } turn a 1;"), "1^23|||");
    }

    /** As many STEPS as a TRICK may have, and as deep as they may lie, are all done. */
    private static void fortyStepsAreDone() {
        for (int steps = 38; steps <= 40; steps++) {
            dueTop("cut a 1;".repeat(steps), steps, steps);
            dueTop("times 2 { " + "cut a 1;".repeat(steps - 1) + " }", 2 * steps - 1, 2 * (steps - 1));
            dueTop("if 1=1 { " + "cut a 1;".repeat(steps - 1) + " }", steps, steps - 1);
            dueTop("if 1=2 { } else { " + "cut a 1;".repeat(steps - 1) + " }", steps, steps - 1);
        }
    }

    private static void timesFourDeep() {
        int cuts = 1;
        int done = 1;
        String text = "cut a 1;";
        for (int deep = 1; deep <= 4; deep++) {
            text = "times 2 { " + text + " }";
            cuts *= 2;
            done = 2 * done + 1;
            dueTop(text, done, cuts);
        }
        dueTop("times 2 { if 1=1 { times 2 { if 1=2 { } else { cut a 1; } } } }", 1 + 2 * (2 + 2 * 2), 4);
        dueTop("if 1=1 { times 3 { if 1=1 { times 2 { cut a 1; } } } }", 2 + 3 * (2 + 2), 6);
    }

    /** Nine cards of which so many were cut, one by one: perform() and run() find the same one at the top. */
    private static void dueTop(String text, int done, int cuts) {
        TestDesk desk = deskWith(9, text);
        due("perform() of <" + text + ">", desk.perform(), done);
        due("the top of <" + text + ">", desk.look(0, 1), cuts % 9 + 1);
        desk.claimOf("card a 1 = " + (cuts % 9 + 1));
        due("run() of <" + text + ">", desk.run(), 0);
        due("ends of <" + text + ">", desk.told(), "1 1 -1: -1");
    }

    /** Ifs that find out which of nine cards is at the top, and then put card 1 there. */
    private static String putOneAtTheTop(int low, int high, boolean lowFirst) {
        if (low == high) {
            return "cut a " + (10 - low) + ";";
        }
        int middle = lowFirst ? (low + high + 1) / 2 : (low + high) / 2 + 1;
        String lower = putOneAtTheTop(low, middle - 1, lowFirst);
        String upper = putOneAtTheTop(middle, high, lowFirst);
        return lowFirst ? "if card a 1<" + middle + "{" + lower + "}else{" + upper + "}"
                : "if card a 1>=" + middle + "{" + upper + "}else{" + lower + "}";
    }

    private static void ifsFourDeep() {
        for (boolean lowFirst : new boolean[] {true, false}) {
            String text = "cut a free;" + putOneAtTheTop(1, 9, lowFirst);
            TestDesk desk = deskWith(9, text);
            desk.claimOf("rising a");
            for (int cut = 0; cut < 9; cut++) {
                desk.performWith(cut);
                due("performed with " + cut, desk.holds(), true);
            }
            due("run of <" + text + ">", desk.run(), 0);
            due("all come to one end", desk.told(), "1 1 -1: -1");
            // What each way does is seen: the card that was at the top has its face up.
            desk = deskWith(9, "cut a free; flip a 1;" + putOneAtTheTop(1, 9, lowFirst));
            desk.claimOf("rising a");
            due("run with faces", desk.run(), 0);
            due("nine ends", desk.told(), "9 9 -1: -1");
            desk.claimOf("rising a and not face a 7 = 1");
            due("run with one that breaks it", desk.run(), 1);
            due("the CHOICE that does", desk.told(), "9 8 1: 6 -1");
        }
    }

    // ---- "CHOICES: free of MANY: how many, from 0 to all that there are (of cut: to one less ..)" ----

    private static void dueChoices(int n, String text, int choices) {
        TestDesk desk = deskWith(n, text);
        int ahead = desk.count(1) - 1;
        for (int choice : new int[] {0, choices - 1}) {
            due("CHOICE " + choice + " of <" + text + "> with " + n, desk.performWith(choice), ahead + 1);
            due("it was taken", desk.count(3), 1);
        }
        for (int choice : new int[] {choices, choices + 1, 127, 128, 255}) {
            due("CHOICE " + choice + " of <" + text + "> with " + n, desk.performWith(choice), -1 - ahead);
            due("none was taken", desk.count(3), 0);
        }
        due("no CHOICE of <" + text + ">", desk.performWith(), -1 - ahead);
        // The CLAIM fails with each, so that the first row is told; the last one is known by its cards.
        desk.claimOf("1 = 2");
        due("run of <" + text + ">", desk.run(), 1);
        due("the first CHOICE of <" + text + ">", desk.choice(0), 0);
    }

    private static void choicesOfMany() {
        for (int n = 2; n <= 9; n++) {
            dueChoices(n, "deal a free to b;", n + 1);
            dueChoices(n, "move a free to b;", n + 1);
            dueChoices(n, "turn a free;", n + 1);
            due("deal none of " + n, after(n, "deal a free to b;", 0), row(1, n) + "|||");
            due("deal all but one of " + n, after(n, "deal a free to b;", n - 1), n + "|" + reversed(1, n - 1, "") + "||");
            due("deal all of " + n, after(n, "deal a free to b;", n), "|" + reversed(1, n, "") + "||");
            due("move none of " + n, after(n, "move a free to b;", 0), row(1, n) + "|||");
            due("move all of " + n, after(n, "move a free to b;", n), "|" + row(1, n) + "||");
            due("turn none of " + n, after(n, "turn a free;", 0), row(1, n) + "|||");
            due("turn all of " + n, after(n, "turn a free;", n), reversed(1, n, "^") + "|||");
            due("one way each", ends(n, "deal a free to b;"), n + 1);
            due("one way each to move", ends(n, "move a free to b;"), n + 1);
            due("one way each to turn", ends(n, "turn a free;"), n + 1);
        }
    }

    private static int ends(int n, String text) {
        TestDesk desk = deskWith(n, text);
        due("run of <" + text + ">", desk.run(), 0);
        return desk.ends(0);
    }

    private static void choicesOfCut() {
        for (int n = 2; n <= 9; n++) {
            dueChoices(n, "cut a free;", n);
            due("cut none of " + n, after(n, "cut a free;", 0), row(1, n) + "|||");
            due("cut all but one of " + n, after(n, "cut a free;", n - 1), n + row(1, n - 1) + "|||");
            due("one way each to cut", ends(n, "cut a free;"), n);
        }
        dueChoices(3, "move a 1 to b; cut b free;", 1);
        dueChoices(3, "move a 2 to b; cut b free;", 2);
    }

    // ---- "free of a PLACE: from 1 on to the last one (of an empty PILE one CHOICE ..)" ----

    private static void choicesOfPlaces() {
        for (int n = 2; n <= 9; n++) {
            dueChoices(n, "take a free to b;", n);
            dueChoices(n, "flip a free;", n);
            dueChoices(n, "mark a free;", n);
            due("take the first of " + n, after(n, "take a free to b;", 0), row(2, n) + "|1||");
            due("take the last of " + n, after(n, "take a free to b;", n - 1), row(1, n - 1) + "|" + n + "||");
            due("flip the last of " + n, after(n, "flip a free;", n - 1), row(1, n) + "^|||");
            due("mark the last of " + n, after(n, "mark a free;", n - 1), row(1, n) + "*|||");
            due("one way each to take", ends(n, "take a free to b;"), n);
            due("one way each to flip", ends(n, "flip a free;"), n);
            due("one way each to mark", ends(n, "mark a free;"), n);
        }
        dueChoices(3, "move a 1 to b; take b free to c;", 1);
        dueChoices(3, "move a 1 to b; flip b free;", 1);
        dueChoices(3, "move a 1 to b; mark b free;", 1);
    }

    private static void choicesOfEmptyPiles() {
        String[] steps = {"cut b free;", "deal b free to c;", "move b free to c;", "turn b free;", "take b free to c;",
            "flip b free;", "mark b free;", "riffle b c to d;"};
        for (String step : steps) {
            dueChoices(3, step, 1);
            due("<" + step + "> does nothing", after(3, "mark a 2; " + step, 0), "12*3|||");
            due("<" + step + "> has one way", ends(3, step), 1);
            due("it is a CHOICE all the same", deskWith(3, step + " cut a free;").performWith(0, 2), 2);
            due("another one is missing", deskWith(3, step + " cut a free;").performWith(0), -2);
        }
    }

    // ---- "riffle: the ways, in order: .. the one that comes from the first PILE is ahead" ----

    private static int waysToChoose(int n, int k) {
        return k == 0 || k == n ? 1 : waysToChoose(n - 1, k - 1) + waysToChoose(n - 1, k);
    }

    private static void choicesOfRiffles() {
        for (int n = 2; n <= 9; n++) {
            for (int second = 0; second <= n; second++) {
                String text = "move a " + second + " to b; riffle a b to c;";
                int ways = waysToChoose(n, second);
                dueChoices(n, text, ways);
                due("the first way", after(n, text, 0), "||" + row(second + 1, n) + row(1, second) + "|");
                due("the last way", after(n, text, ways - 1), "||" + row(1, n) + "|");
                due("each way once", ends(n, text), ways);
            }
        }
        due("most ways", waysToChoose(9, 4), 126);
        // Not all cards come together: no card, one, two and so on.
        for (int first = 0; first <= 2; first++) {
            for (int second = 0; second <= 2; second++) {
                dueChoices(5, "move a " + first + " to b; move a " + second + " to c; riffle b c to d;",
                        waysToChoose(first + second, first));
            }
        }
    }

    private static void riffleWaysInOrder() {
        // first PILE 2 3, second PILE 1
        String text = "move a 1 to b; riffle a b to a;";
        due("way 0", after(3, text, 0), "231|||");
        due("way 1", after(3, text, 1), "213|||");
        due("way 2", after(3, text, 2), "123|||");
        // first PILE 3, second PILE 1 2
        text = "move a 2 to b; riffle a b to b;";
        due("way 0 of one and two", after(3, text, 0), "|312||");
        due("way 1 of one and two", after(3, text, 1), "|132||");
        due("way 2 of one and two", after(3, text, 2), "|123||");
    }

    /** A byte is 0 to 255, so the least byte above the CHOICES is none of them, and so are the highest. */
    private static void choicesAreBytes() {
        String text = "move a 4 to b; riffle a b to a;";
        for (int choice : new int[] {124, 125}) {
            due("CHOICE " + choice, deskWith(9, text).performWith(choice), 2);
        }
        for (int choice : new int[] {126, 127, 128, 129, 254, 255}) {
            TestDesk desk = deskWith(9, text);
            due("CHOICE " + choice, desk.performWith(choice), -2);
            due("it lies as ahead of that STEP", desk.piles(), "56789|1234||");
        }
    }

    // ---- NUM ----

    private static boolean holdsBehind(int n, String trick, String claim) {
        TestDesk desk = deskWith(n, trick);
        desk.performWith();
        due("claim() of <" + claim + ">", desk.claimOf(claim), 0);
        return desk.holds();
    }

    private static void numbersOfPiles() {
        for (int n = 2; n <= 9; n++) {
            due("size of all", holdsBehind(n, "", "size a = " + n + " and size b = 0"), true);
            due("size of none", holdsBehind(n, "move a all to d;", "size a = 0 and size d = " + n), true);
            due("up of none", holdsBehind(n, "", "up a = 0 and up b = 0"), true);
            due("up of all", holdsBehind(n, "turn a all;", "up a = " + n + " and up b = 0"), true);
            due("up of all but one", holdsBehind(n, "turn a all; flip a " + n + ";", "up a = " + (n - 1)), true);
            due("up of the last", holdsBehind(n, "flip a " + n + ";", "up a = 1"), true);
        }
    }

    private static void whereOfTheMarked() {
        for (int n = 2; n <= 9; n++) {
            due("where the first is", holdsBehind(n, "mark a 1;", "where a = 1 and where b = 0"), true);
            due("where the last is", holdsBehind(n, "mark a " + n + ";", "where a = " + n), true);
        }
        due("without a MARKED one", holdsBehind(3, "", "where a = 0 and where b = 0 and where c = 0 and where d = 0"), true);
        due("not there any more", holdsBehind(3, "mark a 1; move a 1 to b;", "where a = 0 and where b = 1"), true);
        due("the last of another", holdsBehind(9, "mark a 9; deal a 8 to c; move a 1 to c; cut c 1;",
                "where c = 9 and where a = 0"), true);
    }

    /** "card, value, suit, colour, face .. of the card at the PLACE, 0 if there is none" */
    private static void placesWithoutACard() {
        String[] words = {"card", "value", "suit", "colour", "face"};
        for (int n = 2; n <= 9; n++) {
            TestDesk desk = new TestDesk();
            desk.cards(n);
            desk.card(n, 13, 3, 1);
            desk.trickOf("flip a " + n + ";");
            desk.perform();
            int[] last = {n, 13, 3, 1, 1};
            for (int w = 0; w < words.length; w++) {
                desk.claimOf(words[w] + " a " + n + " = " + last[w]);
                due(words[w] + " of the last of " + n, desk.holds(), true);
                desk.claimOf(words[w] + " b 1 = 0");
                due(words[w] + " of an empty PILE", desk.holds(), true);
                if (n < 9) {
                    desk.claimOf(words[w] + " a " + (n + 1) + " = 0 and " + words[w] + " a 9 = 0");
                    due(words[w] + " behind the last of " + n, desk.holds(), true);
                }
            }
        }
        // What lay there is not seen any more.
        due("a card that has left", holdsBehind(3, "turn a all; move a 1 to b;",
                "card a 3 = 0 and value a 3 = 0 and suit a 3 = 0 and colour a 3 = 0 and face a 3 = 0"), true);
        due("the only one has left", holdsBehind(2, "move a 2 to b;", "card a 1 = 0 and face a 1 = 0"), true);
    }

    // ---- alike, each, rising ----

    private static void alikeOfFew() {
        String[] properties = {"value", "suit", "colour"};
        for (int i = 0; i < 3; i++) {
            String claim = "alike " + properties[i] + " a";
            due("of none: " + claim, holdsBehind(2, "move a all to b;", claim), true);
            due("of one: " + claim, holdsBehind(2, "move a 1 to b;", claim), true);
            due("of two: " + claim, holdsBehind(2, "", claim), false);
            TestDesk desk = new TestDesk();
            desk.cards(9);
            for (int c = 1; c <= 9; c++) {
                desk.card(c, i == 0 ? 13 : c, i == 1 ? 3 : c % 4, i == 2 ? 1 : c % 2);
            }
            desk.claimOf(claim);
            due("of nine that are alike: " + claim, desk.holds(), true);
            for (int c : new int[] {1, 2, 8, 9}) {
                desk.card(c, 12, 2, 0);
                due("but for card " + c + ": " + claim, desk.holds(), false);
                desk.card(c, 13, 3, 1);
            }
        }
    }

    /** "in each k cards one behind another, from the top on, as often as there are k more" */
    private static void eachOfGroups() {
        for (int k = 2; k <= 9; k++) {
            for (int n = 2; n <= 9; n++) {
                TestDesk desk = new TestDesk();
                desk.cards(n);
                due("claim() of each " + k, desk.claimOf("each " + k + " value a"), 0);
                due("all unlike, " + k + " of " + n, desk.holds(), true);
                for (int c = 1; c <= n; c++) {
                    desk.card(c, 13, 0, 0);
                }
                due("all alike, " + k + " of " + n, desk.holds(), n < k);
                desk.trickOf("move a all to b;");
                desk.perform();
                due("of none, " + k, desk.holds(), true);
            }
            lastOfAGroup(k);
        }
    }

    /** The first and the last card of each whole group count; the card behind the last one does not. */
    private static void lastOfAGroup(int k) {
        for (int n = Math.max(2, k); n <= 9; n++) {
            int whole = n - n % k;
            for (int c = 2; c <= n; c++) {
                TestDesk desk = new TestDesk();
                desk.cards(n);
                desk.claimOf("each " + k + " value a");
                desk.card(c, c - 1, 0, 0);
                boolean inOneGroup = c <= whole && (c - 1) / k == (c - 2) / k;
                due("each " + k + " of " + n + " with " + c + " like the one over it", desk.holds(), !inOneGroup);
            }
        }
    }

    private static void eachLooksFromTheTop() {
        // suits 0 0 1: from the top on the first two are alike, from the bottom on they are not
        TestDesk desk = new TestDesk();
        desk.cards(3);
        desk.card(1, 1, 0, 0);
        desk.card(2, 2, 0, 0);
        desk.card(3, 3, 1, 0);
        desk.claimOf("each 2 suit a");
        due("0 0 1 by twos", desk.holds(), false);
        desk.startWith(3, 2, 1);
        due("1 0 0 by twos", desk.holds(), true);
        desk.claimOf("each 3 suit a");
        due("1 0 0 by threes", desk.holds(), false);
        desk.claimOf("each 4 suit a");
        due("1 0 0 by fours", desk.holds(), true);
        desk.claimOf("each 3 value a");
        due("the first and the third", desk.holds(), true);
        desk.card(1, 3, 0, 0);
        due("the first like the third", desk.holds(), false);
    }

    private static void risingOfFew() {
        due("of none", holdsBehind(2, "move a all to b;", "rising a"), true);
        due("of one", holdsBehind(2, "move a 1 to b;", "rising a and rising b"), true);
        due("of two", holdsBehind(2, "", "rising a"), true);
        due("of two that fall", holdsBehind(2, "cut a 1;", "rising a"), false);
        for (int n = 2; n <= 9; n++) {
            for (int c = 2; c <= n; c++) {
                TestDesk desk = new TestDesk();
                desk.cards(n);
                desk.claimOf("rising a");
                due("all of " + n, desk.holds(), true);
                desk.card(c, c - 1, 0, 0);
                due("card " + c + " like the one over it, of " + n, desk.holds(), false);
                desk.card(c, c, 0, 0);
                due("one more, of " + n, desk.holds(), true);
            }
        }
        TestDesk desk = new TestDesk();
        desk.cards(2);
        desk.claimOf("rising a");
        desk.card(1, 12, 0, 0);
        desk.card(2, 13, 0, 0);
        due("12 and 13", desk.holds(), true);
        desk.card(1, 13, 0, 0);
        due("13 and 13", desk.holds(), false);
    }

    // ---- "ALL ENDS: how the cards may lie behind the TRICK .. each way once" ----

    private static void endsAreUnlike() {
        due("nothing free has one", ends(3, "cut a 1;"), 1);
        due("no STEP has one", ends(3, ""), 1);
        due("the same way twice", ends(3, "cut a free; cut a free;"), 3);
        due("unlike by their faces alone", ends(2, "flip a free;"), 2);
        due("unlike by the MARKED one alone", ends(2, "mark a free;"), 2);
        due("unlike by their order alone", ends(2, "cut a free;"), 2);
        due("unlike by their PILES alone", ends(2, "move a free to b;"), 3);
        due("alike again", ends(2, "move a free to b; move b all to a;"), 1);
        due("the MARKED one is another", ends(2, "mark a free; mark a 1;"), 1);
        due("a PILE that was swapped", ends(2, "move a free to b; if size a = 0 { swap a b; }"), 2);
    }

    // ---- "LARGE, if behind any STEP .. more than 3000 unlike ways" ----

    // 120 orders of five cards, one of five MARKED, one of five with its face up: just 3000 ways.
    private static final String WAYS_3000 =
            "take a 6 to c; times 4 { take a free to b; } move a 1 to b; mark b free; flip b free;";
    // Just one of these ways meets it.
    private static final String ONE_WAY = "if card b 1 = 1 and card b 2 = 2 and card b 3 = 3 and card b 4 = 4"
            + " and where b = 1 and face b 1 = 1 ";

    private static void dueRun(String text, int answer, int ends) {
        TestDesk desk = deskWith(6, text);
        due("run of <" + text + ">", desk.run(), answer);
        due("ends of <" + text + ">", desk.ends(0), ends);
        due("holding of <" + text + ">", desk.ends(1), ends);
        due("no row of <" + text + ">", desk.ends(2), -1);
        due("no CHOICE of <" + text + ">", desk.choice(0), -1);
        int[] tried = answer == 2 ? new int[] {-1, 6} : new int[] {0, 1};
        desk.startWith(6, 5, 4, 3, 2, 1);
        due("stack(1) of <" + text + ">", desk.stack(1), tried[0]);
        due("the START behind that", desk.at(1), tried[1]);
    }

    private static void largeBehindOneStep() {
        // The one way comes to lie as another one does.
        dueRun(WAYS_3000 + ONE_WAY + "{ flip b 1; flip b 2; }", 0, 2999);
        dueRun(WAYS_3000, 0, 3000);
        dueRun(WAYS_3000 + ONE_WAY + "{ move c 1 to d; }", 0, 3000);
        dueRun(WAYS_3000 + ONE_WAY + "{ move c free to d; }", 2, -1);
        dueRun(WAYS_3000 + "flip b free;", 2, -1);
    }

    /** Where there were more, it is LARGE, even if they come to be fewer. */
    private static void largeInTheMiddle() {
        dueRun(WAYS_3000 + ONE_WAY + "{ move c free to d; } move d all to c;", 2, -1);
        dueRun(WAYS_3000 + ONE_WAY + "{ move c free to d; move d all to c; }", 0, 3000);
        dueRun(WAYS_3000 + ONE_WAY + "{ move c free to d; } mark a 1; turn b all;", 2, -1);
        dueRun(WAYS_3000 + "mark b 1; mark b free;", 0, 3000);
    }

    /** "of those within a times each time by itself" */
    private static void largeOfTimes() {
        // Behind the first and the second time they lie unlike, together more than 3000 ways.
        dueRun(WAYS_3000 + "times 2 { flip c 1; }", 0, 3000);
        dueRun(WAYS_3000 + "times 9 { cut b 1; move c 1 to d; swap c d; }", 0, 3000);
        dueRun(WAYS_3000 + "times 2 { " + ONE_WAY + "{ move c free to d; } }", 2, -1);
        dueRun(WAYS_3000 + "times 2 { if size d = 1 { swap c d; } else { " + ONE_WAY + "{ move c 1 to d; } } }", 0, 3000);
        // It is LARGE behind the second time alone.
        dueRun(WAYS_3000 + "times 2 { if face c 1 = 1 { " + ONE_WAY + "{ move c free to d; } } flip c 1; }", 2, -1);
        dueRun(WAYS_3000 + "times 2 { if face c 1 = 1 { " + ONE_WAY + "{ move c 1 to d; } } flip c 1; }", 0, 3000);
    }

    /** "behind an if both its ways put together" */
    private static void largeOfBothWays() {
        // 600 ways have card 1 at the top of b, 2400 have not.
        dueRun(WAYS_3000 + "if card b 1 = 1 { flip c 1; } else { cut b 1; }", 0, 3000);
        dueRun(WAYS_3000 + ONE_WAY + "{ } else { flip c 1; }", 0, 3000);
        dueRun(WAYS_3000 + ONE_WAY + "{ move c free to d; } else { flip c 1; }", 2, -1);
        dueRun(WAYS_3000 + "if not ( where b = 0 ) { flip c 1; } else { flip c free; }", 0, 3000);
        dueRun(WAYS_3000 + "if 1=1 { cut b 1; } else { times 2 { flip b 1; } }", 0, 3000);
        // 3000 ways and none, and none and 3000 ways
        dueRun(WAYS_3000 + "if 1=1 { } else { move b all to d; }", 0, 3000);
        dueRun(WAYS_3000 + "if 1=2 { move b all to d; } else { }", 0, 3000);
    }

    /** A STEP within one way of an if has the ways behind it that come there alone. */
    private static void largeWithinOneWay() {
        // 600 ways have card 1 at the top of b: behind an inner STEP there come to be 600, 3000 or 3600.
        dueRun(WAYS_3000 + "if card b 1 = 1 { mark b 1; mark b free; }", 0, 3000);
        dueRun(WAYS_3000 + "if card b 1 = 1 { cut b free; cut b free; }", 0, 3000);
        dueRun(WAYS_3000 + "if card b 1 = 1 { move b free to d; move b all to d; swap b d; }", 2, -1);
        dueRun(WAYS_3000 + "if card b 1 != 1 { } else { move b free to d; move b all to d; swap b d; }", 2, -1);
        // Without faces there are 600 ways in all, and 24 * 5 * 6 = 720 in there, which come to lie as others do.
        dueRun("take a 6 to c; times 4 { take a free to b; } move a 1 to b; mark b free;"
                + "if card b 1 = 1 { move b free to d; move b all to d; swap b d; }", 0, 600);
    }
}
