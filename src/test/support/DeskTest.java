/** What the tests have in common: answers are looked at, and the wrong ones told and counted. */
abstract class DeskTest {
    private static final int MOST_SHOWN = 60;

    private static int checked = 0;
    private static int wrong = 0;

    static void due(String what, long got, long want) {
        due(what, Long.toString(got), Long.toString(want));
    }

    static void due(String what, boolean got, boolean want) {
        due(what, Boolean.toString(got), Boolean.toString(want));
    }

    static void due(String what, String got, String want) {
        checked++;
        if (!got.equals(want)) {
            wrong(what + " answered " + got + ", due is " + want);
        }
    }

    static void wrong(String what) {
        wrong++;
        if (wrong <= MOST_SHOWN) {
            System.out.println(what);
        }
    }

    /** Ends the program with exit code 1 if an answer was wrong. */
    static void finish() {
        System.out.println(checked + " answers were looked at, " + wrong + " are wrong");
        if (wrong != 0) {
            System.exit(1);
        }
    }

    /** Performs the text with n cards and these choices, and shows the PILES. */
    static String after(int n, String text, int... choices) {
        TestDesk desk = new TestDesk();
        desk.cards(n);
        int steps = desk.trickOf(text);
        if (steps < 0) {
            return "fault " + desk.fault() + " at " + (-1 - steps);
        }
        int done = desk.performWith(choices);
        return done < 0 ? "stuck behind " + (-1 - done) + ": " + desk.piles() : desk.piles();
    }

    static TestDesk deskWith(int n, String trick) {
        TestDesk desk = new TestDesk();
        desk.cards(n);
        due("trick() of <" + trick + "> has no FAULT", desk.trickOf(trick) >= 0, true);
        return desk;
    }
}
