import java.util.ArrayDeque;
import java.util.ArrayList;
import java.util.Deque;
import java.util.HashMap;
import java.util.List;
import java.util.Map;
import java.util.Random;
import java.util.regex.Matcher;
import java.util.regex.Pattern;

/**
 * Made-up texts, good ones and spoilt ones, compared with a plain reader: it has the grammar as a table
 * that tells what a part becomes by the TOKEN ahead, and keeps the parts that are still to come in a row.
 */
public final class TextModelTest extends DeskTest {
    private static final int CALLS_FOR_A_TEXT = 55;
    private static final int TEXTS = 12_000;

    // A part, the TOKEN ahead (* any other one), and what the part is then. Names in capitals are parts,
    // numbers with a dash what a NUMBER may be.
    private static final String[] GRAMMAR = {
        "STEPS cut cut FIRST MANY ; STEPS",
        "STEPS deal deal FIRST MANY to OTHER ; STEPS",
        "STEPS move move FIRST MANY to OTHER ; STEPS",
        "STEPS take take FIRST PLACE to OTHER ; STEPS",
        "STEPS turn turn FIRST MANY ; STEPS",
        "STEPS flip flip FIRST PLACE ; STEPS",
        "STEPS riffle riffle FIRST OTHER to PILE ; STEPS",
        "STEPS faro faro FIRST OTHER to PILE ; STEPS",
        "STEPS down down FIRST to OTHER ; STEPS",
        "STEPS swap swap FIRST OTHER ; STEPS",
        "STEPS mark mark FIRST PLACE ; STEPS",
        "STEPS times times 2-9 OFTEN { STEPS } ONCE STEPS",
        "STEPS if if COND { STEPS } ELSE STEPS",
        "STEPS *",
        "ELSE else else { STEPS }",
        "ELSE *",
        "MANY # 0-9", "MANY all all", "MANY free free",
        "PLACE # 1-9", "PLACE free free",
        "COND * BOTH ORS",
        "ORS or or BOTH ORS", "ORS *",
        "BOTH * ONE ANDS",
        "ANDS and and ONE ANDS", "ANDS *",
        "ONE not not ONE OUT",
        "ONE ( ( COND ) OUT",
        "ONE alike alike PROP PILE",
        "ONE each each 2-9 PROP PILE",
        "ONE rising rising PILE",
        "ONE * NUM CMP NUM",
        "CMP = =", "CMP != !=", "CMP < <", "CMP <= <=", "CMP > >", "CMP >= >=",
        "NUM # 0-99",
        "NUM size size PILE", "NUM up up PILE", "NUM where where PILE",
        "NUM card card PILE 1-9", "NUM value value PILE 1-9", "NUM suit suit PILE 1-9",
        "NUM colour colour PILE 1-9", "NUM face face PILE 1-9",
        "PROP value value", "PROP suit suit", "PROP colour colour",
    };

    private static final String STEP_WORDS =
            " cut deal move take turn flip riffle faro down swap mark times if ";
    private static final String[] SPOILERS = (
            "a b c d e cut deal move take turn flip riffle faro down swap mark times if else to all free or and "
            + "not alike each rising size up where card value suit colour face { } ( ) ; = != < <= > >= 0 1 2 9 10 "
            + "00 09 99 100 9a a9 abcdefgh abcdefghi Cut ! . , # 7 { { ( ( } ) ; ;").split(" ");
    private static final Pattern PIECE = Pattern.compile("[a-z0-9]+|[!<>]=|[^ \n]");
    private static final Pattern TOKEN =
            Pattern.compile("[a-z]{1,8}|[0-9]{1,2}|[{}();=<>]|!=|<=|>=");

    private static final Map<String, Map<String, String[]>> TABLE = table();
    private static final int[] SEEN = new int[7];

    private static TestDesk desk = new TestDesk();

    public static void main(String[] args) {
        for (int seed = 1; seed <= TEXTS; seed++) {
            Random random = new Random(seed * 15485863L);
            boolean ofClaim = random.nextInt(4) == 0;
            String text = madeText(random, ofClaim);
            for (int spoilt = 0; spoilt < 3 && text.length() <= 900; spoilt++) {
                compare(seed, text, ofClaim);
                text = spoil(random, text);
            }
        }
        StringBuilder told = new StringBuilder("texts by their FAULT, 0 without one:");
        for (int kind = 0; kind < SEEN.length; kind++) {
            told.append(' ').append(SEEN[kind]);
            if (SEEN[kind] < 50) {
                wrong("too few texts with FAULT " + kind);
            }
        }
        System.out.println(told);
        finish();
    }

    private static Map<String, Map<String, String[]>> table() {
        Map<String, Map<String, String[]>> table = new HashMap<>();
        for (String line : GRAMMAR) {
            String[] words = line.split(" ");
            String[] becomes = new String[words.length - 2];
            System.arraycopy(words, 2, becomes, 0, becomes.length);
            table.computeIfAbsent(words[0], part -> new HashMap<>()).put(words[1], becomes);
        }
        return table;
    }

    private static void compare(int seed, String text, boolean ofClaim) {
        if (desk.callsLeft() < CALLS_FOR_A_TEXT) {
            desk = new TestDesk();
        }
        PlainReader reader = new PlainReader();
        reader.read(text, ofClaim ? "COND" : "STEPS");
        SEEN[reader.fault]++;
        String what = "seed " + seed + ": of <" + text + "> ";
        int stepsAhead = desk.count(1);
        int answer = ofClaim ? desk.claimOf(text) : desk.trickOf(text);
        int good = ofClaim ? 0 : reader.steps;
        due(what + "the answer", answer, reader.fault == 0 ? good : -1 - reader.place);
        due(what + "the FAULT", desk.fault(), reader.fault);
        due(what + "the STEPS", desk.count(1), reader.fault == 0 && !ofClaim ? reader.steps : stepsAhead);
        due(what + "the tape", desk.count(2), 0);
    }

    /** Tells the first FAULT of a text and its place. */
    private static final class PlainReader {
        private final Deque<String> toCome = new ArrayDeque<>();
        private final Deque<Integer> often = new ArrayDeque<>();
        private String firstPile = "";
        private int latestNumber;
        private int braces;
        private int nested;
        private int choices;
        private int done;
        int steps;
        int fault;
        int place;

        void read(String text, String whole) {
            toCome.push("END");
            toCome.push(whole);
            often.push(1);
            Matcher pieces = PIECE.matcher(text);
            while (fault == 0 && pieces.find()) {
                place = pieces.start();
                String piece = pieces.group();
                fault = TOKEN.matcher(piece).matches() ? faultOf(piece) : 1;
            }
            if (fault == 0) {
                place = text.length();
                fault = faultOf("END");
            }
            if (fault == 0) {
                fault = choices > 8 ? 5 : done > 500 ? 6 : 0;
            }
        }

        private int faultOf(String token) {
            String kind = token.matches("[0-9]+") ? "#" : token;
            while (true) {
                String part = toCome.pop();
                if (part.equals("OFTEN")) {
                    often.push(often.peek() * latestNumber);
                } else if (part.equals("ONCE")) {
                    often.pop();
                } else if (part.equals("OUT")) {
                    nested--;
                } else if (TABLE.containsKey(part)) {
                    Map<String, String[]> ways = TABLE.get(part);
                    String[] becomes = ways.containsKey(kind) ? ways.get(kind) : ways.get("*");
                    if (becomes == null) {
                        return 2;
                    }
                    for (int i = becomes.length - 1; i >= 0; i--) {
                        toCome.push(becomes[i]);
                    }
                } else {
                    return faultAt(part, token, kind);
                }
            }
        }

        private int faultAt(String wanted, String token, String kind) {
            if (wanted.equals("FIRST") || wanted.equals("OTHER") || wanted.equals("PILE")) {
                return faultOfPile(wanted, token);
            }
            if (wanted.indexOf('-') > 0) {
                return faultOfNumber(wanted, token, kind);
            }
            if (!wanted.equals(token)) {
                return 2;
            }
            boolean isStep = STEP_WORDS.contains(" " + token + " ");
            if (isStep && steps == 40 || token.equals("{") && braces == 4) {
                return 4;
            }
            if ((token.equals("(") || token.equals("not")) && nested == 8) {
                return 4;
            }
            nested += token.equals("(") || token.equals("not") ? 1 : 0;
            braces += token.equals("{") ? 1 : token.equals("}") ? -1 : 0;
            steps += isStep ? 1 : 0;
            done += isStep ? often.peek() : 0;
            choices += token.equals("riffle") || token.equals("free") ? often.peek() : 0;
            return 0;
        }

        private int faultOfPile(String wanted, String token) {
            if (!token.matches("[abcd]")) {
                return 2;
            }
            if (wanted.equals("OTHER") && token.equals(firstPile)) {
                return 3;
            }
            firstPile = wanted.equals("FIRST") ? token : firstPile;
            return 0;
        }

        private int faultOfNumber(String wanted, String token, String kind) {
            if (!kind.equals("#")) {
                return 2;
            }
            String[] bounds = wanted.split("-");
            latestNumber = Integer.parseInt(token);
            boolean within = latestNumber >= Integer.parseInt(bounds[0]) && latestNumber <= Integer.parseInt(bounds[1]);
            return within ? 0 : 3;
        }
    }

    // ---- making texts up ----

    private static String madeText(Random random, boolean ofClaim) {
        List<String> tokens = new ArrayList<>();
        Deque<String> toCome = new ArrayDeque<>();
        toCome.push(ofClaim ? "COND" : "STEPS");
        int mostTokens = 5 + random.nextInt(random.nextInt(4) == 0 ? 400 : 120);
        int oftenFree = Math.max(0, random.nextInt(4) - 1);
        // Some texts go deep, others are long.
        int deep = random.nextInt(6);
        for (int i = 0; i < 100_000 && !toCome.isEmpty(); i++) {
            String part = toCome.pop();
            if (TABLE.containsKey(part)) {
                boolean isOver = tokens.size() + toCome.size() > mostTokens;
                String[] becomes = oneOf(random, part, isOver, deep, oftenFree);
                for (int k = becomes.length - 1; k >= 0; k--) {
                    toCome.push(becomes[k]);
                }
            } else if (part.equals("FIRST") || part.equals("PILE")) {
                tokens.add("abcd".substring(random.nextInt(4)).substring(0, 1));
            } else if (part.equals("OTHER")) {
                tokens.add(otherPile(random, tokens));
            } else if (part.indexOf('-') > 0) {
                tokens.add(number(random, part));
            } else if (!part.equals("OFTEN") && !part.equals("ONCE") && !part.equals("OUT")) {
                tokens.add(part);
            }
        }
        return join(random, tokens);
    }

    private static String[] oneOf(Random random, String part, boolean isOver, int deep, int oftenFree) {
        Map<String, String[]> ways = TABLE.get(part);
        if (ways.containsKey("*") && (isOver || random.nextInt(8) == 0)) {
            return ways.get("*");
        }
        if (part.equals("STEPS") && random.nextInt(10) < deep) {
            return ways.get(random.nextInt(3) == 0 ? "if" : "times");
        }
        if (part.equals("ONE") && random.nextInt(6) < deep) {
            return ways.get(random.nextBoolean() ? "not" : "(");
        }
        if (part.equals("ORS") || part.equals("ANDS")) {
            return ways.get(random.nextInt(4) == 0 && ways.size() > 1 ? part.equals("ORS") ? "or" : "and" : "*");
        }
        List<String> keys = new ArrayList<>(ways.keySet());
        keys.sort(null);
        String key = keys.get(random.nextInt(keys.size()));
        boolean isFree = key.equals("free") || key.equals("riffle");
        // Too many free ones would hide FAULT 6.
        return isFree && random.nextInt(4) >= oftenFree ? oneOf(random, part, isOver, deep, oftenFree) : ways.get(key);
    }

    private static String otherPile(Random random, List<String> tokens) {
        String first = "a";
        for (String token : tokens) {
            first = token.matches("[abcd]") ? token : first;
        }
        String others = "abcd".replace(first, "") + (random.nextInt(60) == 0 ? first : "");
        return others.substring(random.nextInt(others.length())).substring(0, 1);
    }

    private static String number(Random random, String part) {
        String[] bounds = part.split("-");
        int least = Integer.parseInt(bounds[0]);
        int most = Integer.parseInt(bounds[1]);
        int number = random.nextInt(80) == 0 ? random.nextInt(100) : least + random.nextInt(most - least + 1);
        return number < 10 && random.nextInt(9) == 0 ? "0" + number : Integer.toString(number);
    }

    private static String join(Random random, List<String> tokens) {
        StringBuilder text = new StringBuilder();
        for (String token : tokens) {
            boolean touches = text.length() > 0 && Character.isLetterOrDigit(text.charAt(text.length() - 1))
                    && Character.isLetterOrDigit(token.charAt(0));
            if (touches || random.nextInt(5) == 0) {
                text.append(random.nextInt(6) == 0 ? "\n" : " ");
            }
            text.append(token);
        }
        return text.toString();
    }

    /** Changes a text at one place, as often by a TOKEN as by a byte. */
    private static String spoil(Random random, String text) {
        int from = random.nextInt(text.length() + 1);
        int to = Math.min(text.length(), from + random.nextInt(4));
        String head = text.substring(0, from);
        String tail = text.substring(to);
        switch (random.nextInt(5)) {
            case 0:
                return head + tail;
            case 1:
                return head + (char) random.nextInt(256) + tail;
            case 2:
                return head + text.substring(from, to) + text.substring(from, to) + tail;
            default:
                return head + " " + SPOILERS[random.nextInt(SPOILERS.length)] + " " + tail;
        }
    }
}
