import java.util.ArrayList;
import java.util.List;
import java.util.NoSuchElementException;
import java.util.Random;

/**
 * Long rows of calls with any arguments: nothing but the promised exceptions may come, what is told must
 * agree with itself, and the same calls on another object must give the same answers.
 */
public final class AnyCallTest extends DeskTest {
    private static final String[] PIECES = {"cut", "deal", "move", "take", "turn", "flip", "riffle", "faro", "down",
        "swap", "mark", "times", "if", "else", "to", "all", "free", "a", "b", "c", "d", "or", "and", "not", "alike",
        "each", "rising", "size", "up", "where", "card", "value", "suit", "colour", "face", "{", "}", "(", ")", ";",
        "=", "!=", "<", "<=", ">", ">=", "0", "1", "2", "9", "10", "99", "100", "zzz", "#", "cut a free;",
        "riffle a b to a;", "deal a free to b;", "times 2 {", "if size a > 2 {", "} else {", "1 = 1", "take a free to b;"};
    private static final String[] TRICKS = {"cut a free;", "times 4 { take a free to b; }",
        "deal a 4 to b; riffle a b to c; turn c free;", "if card a 1 = 1 { mark a free; } else { flip a free; } swap a d;",
        "times 2 { deal a free to b; faro a b to c; down c to a; }", "mark a free; move a free to b; riffle b a to a;"};
    private static final String[] CLAIMS = {"rising a", "each 2 colour a", "where a > 2 or up a = 0",
        "not (size a < 3 and alike suit b)", "card a 1 = 1 or value b 2 >= 3", "1 = 1"};

    // The dearest call here puts 900 bytes on the tape and takes it; a check asks of every card.
    private static final int CALLS_FOR_ONE = 50;
    private static final int CALLS_FOR_A_CHECK = 60;
    private static final int CALLS_BETWEEN_CHECKS = 6;

    private static int calls = 0;

    public static void main(String[] args) {
        for (int seed = 1; seed <= 2500; seed++) {
            List<Long> once = answers(seed);
            if (seed % 10 == 0) {
                must(seed, "the same calls give the same answers", once.equals(answers(seed)));
            }
        }
        worstText();
        System.out.println(calls + " calls");
        finish();
    }

    private static void must(int seed, String what, boolean so) {
        due("seed " + seed + ": whether " + what, so, true);
    }

    private static List<Long> answers(int seed) {
        Random random = new Random(seed * 31337L);
        TestDesk desk = new TestDesk();
        List<Long> answers = new ArrayList<>();
        for (int i = 1; desk.callsLeft() >= CALLS_FOR_ONE + CALLS_FOR_A_CHECK; i++) {
            calls++;
            try {
                answers.add(anyCall(desk, random));
            } catch (RuntimeException e) {
                wrong("seed " + seed + ": a call threw " + e);
                e.printStackTrace(System.out);
                return answers;
            }
            if (i % CALLS_BETWEEN_CHECKS == 0) {
                check(desk, seed);
            }
        }
        return answers;
    }

    private static int anyNumber(Random random) {
        return switch (random.nextInt(6)) {
            case 0 -> random.nextInt();
            case 1 -> random.nextBoolean() ? Integer.MAX_VALUE : Integer.MIN_VALUE;
            default -> random.nextInt(13) - 2;
        };
    }

    private static String anyText(Random random) {
        StringBuilder text = new StringBuilder();
        for (int i = random.nextInt(random.nextInt(5) == 0 ? 200 : 12); i >= 0; i--) {
            text.append(PIECES[random.nextInt(PIECES.length)]).append(random.nextInt(9) == 0 ? "" : " ");
        }
        return text.substring(0, Math.min(900, text.length()));
    }

    /** Choices and starts are small bytes, texts are texts. */
    private static void anyTape(TestDesk desk, Random random) {
        StringBuilder bytes = new StringBuilder();
        switch (random.nextInt(5)) {
            case 0 -> bytes.append(anyText(random));
            case 1 -> {
                for (int c = 1; c <= desk.count(0); c++) {
                    bytes.insert(random.nextInt(c), (char) (random.nextInt(4) == 0 ? c + 128 : c));
                }
            }
            case 2 -> {
                for (int i = random.nextInt(30); i > 0; i--) {
                    bytes.append((char) random.nextInt(256));
                }
            }
            default -> {
                for (int i = random.nextInt(10); i > 0; i--) {
                    bytes.append((char) random.nextInt(4));
                }
            }
        }
        desk.tape(bytes.toString());
    }

    private static long stackOrThrow(TestDesk desk, int looks) {
        try {
            return desk.stack(looks);
        } catch (IllegalArgumentException e) {
            return Long.MIN_VALUE;
        }
    }

    private static long atOrThrow(TestDesk desk, int k) {
        try {
            return desk.at(k);
        } catch (NoSuchElementException e) {
            return Long.MIN_VALUE;
        }
    }

    private static long anyCall(TestDesk desk, Random random) {
        switch (random.nextInt(24)) {
            case 0:
                return desk.feed(random.nextInt(), random.nextInt(), random.nextInt(), random.nextInt(), random.nextInt());
            case 1:
                return desk.end(random.nextInt(60) - 2) ? 1 : 0;
            case 2:
                return random.nextInt(4) == 0 && desk.cards(anyNumber(random)) ? 1 : 0;
            case 3:
                return desk.card(anyNumber(random), anyNumber(random), random.nextInt(5), random.nextInt(3)) ? 1 : 0;
            case 4:
                return desk.start() ? 1 : 0;
            case 5:
                return desk.trick();
            case 6:
                return desk.claim();
            case 7:
                return desk.fault();
            case 8:
                return desk.run();
            case 9:
                return desk.ends(anyNumber(random));
            case 10:
                return desk.choice(anyNumber(random));
            case 11, 12:
                return desk.perform();
            case 13:
                return desk.look(anyNumber(random), anyNumber(random));
            case 14:
                return desk.holds() ? 1 : 0;
            case 15:
                return stackOrThrow(desk, anyNumber(random));
            case 16:
                return atOrThrow(desk, anyNumber(random));
            case 17:
                return desk.count(anyNumber(random));
            case 18:
                desk.tape(TRICKS[random.nextInt(TRICKS.length)]);
                return desk.trick();
            case 19:
                desk.tape(CLAIMS[random.nextInt(CLAIMS.length)]);
                return desk.claim();
            case 20:
                desk.tape(anyText(random));
                return random.nextBoolean() ? desk.trick() : desk.claim();
            default:
                anyTape(desk, random);
                return 0;
        }
    }

    /** All cards lie somewhere just once, and numbers stay within what is promised. */
    private static void check(TestDesk desk, int seed) {
        int n = desk.count(0);
        int seen = 0;
        int lying = 0;
        for (int p = 0; p < 4; p++) {
            for (int place = 1; desk.look(p, place) != 0 && place < 20; place++) {
                seen |= 1 << (desk.look(p, place) & 15);
                lying++;
            }
        }
        must(seed, "no card is lost or doubled", lying == 0 || lying == n && seen == (1 << (n + 1)) - 2);
        int first = 0;
        for (int k = 1; k <= n; k++) {
            first |= 1 << (desk.at(k) & 127);
        }
        boolean inBounds = n >= 2 && n <= 9 && desk.count(1) >= 0 && desk.count(1) <= 40 && desk.count(2) >= 0
                && desk.count(2) <= 900 && desk.count(3) >= 0 && desk.count(3) <= 8 && desk.fault() >= 0
                && desk.fault() <= 6 && desk.ends(0) <= 3000 && desk.ends(1) <= desk.ends(0) && desk.ends(2) <= 8;
        must(seed, "the START has each card", first == (1 << (n + 1)) - 2);
        must(seed, "numbers are within their bounds", inBounds);
    }

    /** Texts that fill the tape with as many TOKENS, or as much of one kind, as it holds. */
    private static void worstText() {
        String[] fillers = {"{", "}", "(", ")", ";", "=", "!", "!=", "<", ">=", "a ", "1 ", "not ", "cut ", "1=1 or ",
            "1=1 and ", "not 1=1 or ", "(", "if ", "times 2{", "if 1=1{", "x", "9", " ", "\n", "cut a 1;", "\0", "times 2{}"};
        for (String filler : fillers) {
            for (int cut = 0; cut < 3; cut++) {
                TestDesk desk = new TestDesk();
                String text = filler.repeat(900 / filler.length() + 1).substring(0, 900 - cut);
                desk.tape(text);
                int trick = desk.trick();
                desk.tape(text);
                int claim = desk.claim();
                calls += 2;
                must(0, "a text of <" + filler + "> answers within bounds",
                        trick >= -901 && trick <= 40 && claim >= -901 && claim <= 0);
                desk.run();
                desk.perform();
                desk.holds();
            }
        }
    }
}
