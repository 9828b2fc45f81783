import java.util.NoSuchElementException;

/**
 * A ConjurerDesk that counts its calls: what it answers behind its 512th one is free, so no test may
 * look at that.
 */
final class TestDesk {
    static final int MOST_CALLS = 512;
    private static final int BYTES_OF_A_FEED = 20;

    private final ConjurerDesk desk = new ConjurerDesk();
    private int calls = 0;

    private ConjurerDesk called() {
        calls++;
        if (calls > MOST_CALLS) {
            throw new IllegalStateException("the test itself is wrong: more than 512 calls on one object");
        }
        return desk;
    }

    int callsLeft() {
        return MOST_CALLS - calls;
    }

    int feed(int a, int b, int c, int d, int e) {
        return called().feed(a, b, c, d, e);
    }

    boolean end(int n) {
        return called().end(n);
    }

    boolean cards(int n) {
        return called().cards(n);
    }

    boolean card(int c, int value, int suit, int colour) {
        return called().card(c, value, suit, colour);
    }

    boolean start() {
        return called().start();
    }

    int trick() {
        return called().trick();
    }

    int claim() {
        return called().claim();
    }

    int fault() {
        return called().fault();
    }

    int run() {
        return called().run();
    }

    int ends(int what) {
        return called().ends(what);
    }

    int choice(int k) {
        return called().choice(k);
    }

    int perform() {
        return called().perform();
    }

    int look(int p, int place) {
        return called().look(p, place);
    }

    boolean holds() {
        return called().holds();
    }

    int stack(int looks) {
        return called().stack(looks);
    }

    int at(int k) {
        return called().at(k);
    }

    int count(int what) {
        return called().count(what);
    }

    /** Whether stack(looks) throws what the document names; another exception goes on to the test. */
    boolean stackThrows(int looks) {
        try {
            stack(looks);
        } catch (IllegalArgumentException e) {
            return true;
        }
        return false;
    }

    boolean atThrows(int k) {
        try {
            at(k);
        } catch (NoSuchElementException e) {
            return true;
        }
        return false;
    }

    /** Puts just these bytes on the tape. */
    void tape(int... bytes) {
        end(0);
        for (int i = 0; i < bytes.length; i += BYTES_OF_A_FEED) {
            int[] numbers = new int[5];
            for (int k = 0; k < BYTES_OF_A_FEED; k++) {
                int given = i + k < bytes.length ? bytes[i + k] : 0;
                numbers[k / 4] |= given << (24 - 8 * (k % 4));
            }
            feed(numbers[0], numbers[1], numbers[2], numbers[3], numbers[4]);
        }
        end(bytes.length);
    }

    void tape(String text) {
        tape(text.chars().toArray());
    }

    boolean startWith(int... bytes) {
        tape(bytes);
        return start();
    }

    int trickOf(String text) {
        tape(text);
        return trick();
    }

    int claimOf(String text) {
        tape(text);
        return claim();
    }

    int performWith(int... choices) {
        tape(choices);
        return perform();
    }

    /** A PILE from its top on: card numbers, ^ behind those with the face up, * behind the MARKED one. */
    String pile(int p) {
        StringBuilder shown = new StringBuilder();
        int seen = look(p, 1);
        for (int place = 2; place <= 10 && seen != 0; place++) {
            shown.append(seen & 15).append((seen & 16) != 0 ? "^" : "").append((seen & 32) != 0 ? "*" : "");
            seen = look(p, place);
        }
        return shown.toString();
    }

    String piles() {
        return pile(0) + "|" + pile(1) + "|" + pile(2) + "|" + pile(3);
    }

    String startRow() {
        StringBuilder shown = new StringBuilder();
        int n = count(0);
        for (int k = 1; k <= n; k++) {
            shown.append(k > 1 ? " " : "").append(at(k));
        }
        return shown.toString();
    }

    /** What the latest run told: its ends(0 .. 2), and the row of CHOICES. */
    String told() {
        int length = ends(2);
        StringBuilder shown = new StringBuilder();
        shown.append(ends(0)).append(' ').append(ends(1)).append(' ').append(length).append(':');
        for (int k = 0; k <= length || k == 0; k++) {
            shown.append(' ').append(choice(k));
        }
        return shown.toString();
    }

    /** All that can be asked without changing anything, but for the cards' properties. */
    String state() {
        return "cards " + count(0) + ", STEPS " + count(1) + ", tape " + count(2) + ", taken " + count(3)
                + ", fault " + fault() + ", START " + startRow() + ", told " + told() + ", lies " + piles()
                + ", holds " + holds();
    }
}
