import java.util.ArrayList;
import java.util.Arrays;
import java.util.HashMap;
import java.util.HashSet;
import java.util.List;
import java.util.Map;
import java.util.Random;
import java.util.Set;
import java.util.TreeMap;

/**
 * Made-up tricks and claims, compared with a plain model: it keeps lists of cards, tries every row of
 * CHOICES one after another in their order, and does each from the START on.
 */
public final class ModelTest extends DeskTest {
    private static final String PILE_NAMES = "abcd";
    private static final int MOST_ROWS = 60_000;
    // A text of 900 bytes and what is asked of it take no more calls.
    private static final int CALLS_FOR_A_TEXT = 50;

    public static void main(String[] args) {
        int judged = 0;
        int large = 0;
        int broken = 0;
        for (int seed = 1; seed <= 1500; seed++) {
            boolean heavy = seed > 1200;
            int told = compareOne(new Random(seed * 7919L), seed, heavy);
            judged += told >= 0 ? 1 : 0;
            large += told == 2 ? 1 : 0;
            broken += told == 1 ? 1 : 0;
        }
        for (int seed = 1; seed <= 300; seed++) {
            spoilOne(new Random(seed * 104729L), seed);
        }
        System.out.println("of " + judged + " runs " + large + " were large, " + broken + " broken");
        // Rows that are all of one kind would compare little.
        if (judged < 800 || large < 5 || broken < 200) {
            wrong("too few runs of a kind");
        }
        finish();
    }

    private static void due(int seed, String what, long got, long want) {
        due("seed " + seed + ": " + what, got, want);
    }

    // ---- the model's trick ----

    private static final class Node {
        String word = "";
        int pile;
        int second;
        int target;
        int amount;
        boolean all;
        boolean free;
        Cond cond;
        final List<Node> body = new ArrayList<>();
        List<Node> other;
    }

    private static final class Cond {
        String word = "";
        final List<Cond> parts = new ArrayList<>();
        String property = "";
        int pile;
        int number;
        Num left;
        Num right;
    }

    private static final class Num {
        String word = "";
        int pile;
        int number;
    }

    /** How the cards lie: each list from the top on. */
    private static final class Layout {
        final List<List<Integer>> piles = new ArrayList<>();
        final boolean[] up = new boolean[10];
        int marked;

        Layout(int[] start) {
            for (int p = 0; p < 4; p++) {
                piles.add(new ArrayList<>());
            }
            for (int given : start) {
                piles.get(0).add(given & 127);
                up[given & 127] = given >= 128;
            }
        }

        String shown() {
            return piles + Arrays.toString(up) + marked;
        }
    }

    /** Thrown to end a performance for want of a CHOICE. */
    private static final class Stuck extends RuntimeException {
        private static final long serialVersionUID = 1L;
        final int choices;

        Stuck(int choices) {
            super("stuck", null, false, false);
            this.choices = choices;
        }
    }

    private static final class Performance {
        final int[][] cards;
        final Layout table;
        final int[] row;
        final Map<String, Set<String>> seen;
        int taken;
        int done;

        Performance(int[][] cards, int[] start, int[] row, Map<String, Set<String>> seen) {
            this.cards = cards;
            this.table = new Layout(start);
            this.row = row;
            this.seen = seen;
        }

        int choose(int choices) {
            if (taken >= row.length || row[taken] >= choices) {
                throw new Stuck(taken >= row.length ? choices : 0);
            }
            return row[taken++];
        }

        void doAll(List<Node> nodes, String where) {
            for (int i = 0; i < nodes.size(); i++) {
                String here = where + "/" + i;
                doOne(nodes.get(i), here);
                done++;
                if (seen != null) {
                    seen.computeIfAbsent(here, k -> new HashSet<>()).add(table.shown());
                }
            }
        }

        void doOne(Node node, String here) {
            List<Integer> pile = table.piles.get(node.pile);
            List<Integer> target = table.piles.get(node.target);
            switch (node.word) {
                case "times" -> {
                    for (int k = 0; k < node.amount; k++) {
                        doAll(node.body, here + "t" + k);
                    }
                }
                case "if" -> {
                    if (meets(node.cond, table, cards)) {
                        doAll(node.body, here + "y");
                    } else if (node.other != null) {
                        doAll(node.other, here + "n");
                    }
                }
                case "cut" -> {
                    int many = many(node, pile, Math.max(pile.size(), 1));
                    List<Integer> top = lift(pile, many);
                    pile.addAll(top);
                }
                case "deal" -> {
                    for (int card : lift(pile, many(node, pile, pile.size() + 1))) {
                        target.add(0, card);
                    }
                }
                case "move" -> target.addAll(0, lift(pile, many(node, pile, pile.size() + 1)));
                case "turn" -> {
                    for (int card : lift(pile, many(node, pile, pile.size() + 1))) {
                        table.up[card] = !table.up[card];
                        pile.add(0, card);
                    }
                }
                case "take" -> {
                    int place = place(node, pile);
                    if (place <= pile.size()) {
                        target.add(0, pile.remove(place - 1));
                    }
                }
                case "flip" -> {
                    int place = place(node, pile);
                    if (place <= pile.size()) {
                        int card = pile.get(place - 1);
                        table.up[card] = !table.up[card];
                    }
                }
                case "mark" -> {
                    int place = place(node, pile);
                    table.marked = place <= pile.size() ? pile.get(place - 1) : table.marked;
                }
                case "down" -> {
                    while (!pile.isEmpty()) {
                        target.add(0, pile.remove(0));
                        if (!pile.isEmpty()) {
                            pile.add(pile.remove(0));
                        }
                    }
                }
                case "swap" -> {
                    table.piles.set(node.pile, table.piles.get(node.second));
                    table.piles.set(node.second, pile);
                }
                default -> join(node, pile, table.piles.get(node.second), target);
            }
        }

        void join(Node node, List<Integer> first, List<Integer> second, List<Integer> target) {
            List<Integer> joined;
            if ("faro".equals(node.word)) {
                joined = new ArrayList<>();
                for (int i = 0; i < Math.max(first.size(), second.size()); i++) {
                    if (i < first.size()) {
                        joined.add(first.get(i));
                    }
                    if (i < second.size()) {
                        joined.add(second.get(i));
                    }
                }
            } else {
                List<List<Integer>> ways = new ArrayList<>();
                riffles(first, 0, second, 0, new ArrayList<>(), ways);
                joined = ways.get(choose(ways.size()));
            }
            first.clear();
            second.clear();
            target.addAll(0, joined);
        }

        int many(Node node, List<Integer> pile, int choices) {
            return node.free ? choose(choices) : Math.min(node.all ? 99 : node.amount, pile.size());
        }

        int place(Node node, List<Integer> pile) {
            return node.free ? choose(Math.max(pile.size(), 1)) + 1 : node.amount;
        }
    }

    private static void riffles(List<Integer> first, int i, List<Integer> second, int j, List<Integer> made,
            List<List<Integer>> ways) {
        if (i == first.size() && j == second.size()) {
            ways.add(new ArrayList<>(made));
            return;
        }
        if (i < first.size()) {
            made.add(first.get(i));
            riffles(first, i + 1, second, j, made, ways);
            made.remove(made.size() - 1);
        }
        if (j < second.size()) {
            made.add(second.get(j));
            riffles(first, i, second, j + 1, made, ways);
            made.remove(made.size() - 1);
        }
    }

    private static List<Integer> lift(List<Integer> pile, int many) {
        List<Integer> top = new ArrayList<>(pile.subList(0, many));
        pile.subList(0, many).clear();
        return top;
    }

    // ---- the model's conditions ----

    private static int property(String name, int card, int[][] cards) {
        return cards[card]["value".equals(name) ? 0 : "suit".equals(name) ? 1 : 2];
    }

    private static int number(Num num, Layout table, int[][] cards) {
        List<Integer> pile = table.piles.get(num.pile);
        switch (num.word) {
            case "":
                return num.number;
            case "size":
                return pile.size();
            case "up":
                return (int) pile.stream().filter(c -> table.up[c]).count();
            case "where":
                return pile.indexOf(table.marked) + 1;
            default:
                break;
        }
        if (num.number > pile.size()) {
            return 0;
        }
        int card = pile.get(num.number - 1);
        return switch (num.word) {
            case "card" -> card;
            case "face" -> table.up[card] ? 1 : 0;
            default -> property(num.word, card, cards);
        };
    }

    private static boolean meets(Cond cond, Layout table, int[][] cards) {
        List<Integer> pile = table.piles.get(cond.pile);
        switch (cond.word) {
            case "or":
                return cond.parts.stream().anyMatch(c -> meets(c, table, cards));
            case "and":
                return cond.parts.stream().allMatch(c -> meets(c, table, cards));
            case "not":
                return !meets(cond.parts.get(0), table, cards);
            case "(":
                return meets(cond.parts.get(0), table, cards);
            case "alike":
                return pile.stream().map(c -> property(cond.property, c, cards)).distinct().count() <= 1;
            case "each":
                for (int from = 0; from + cond.number <= pile.size(); from += cond.number) {
                    List<Integer> group = pile.subList(from, from + cond.number);
                    if (group.stream().map(c -> property(cond.property, c, cards)).distinct().count() < cond.number) {
                        return false;
                    }
                }
                return true;
            case "rising":
                for (int i = 1; i < pile.size(); i++) {
                    if (cards[pile.get(i)][0] <= cards[pile.get(i - 1)][0]) {
                        return false;
                    }
                }
                return true;
            default:
                break;
        }
        int left = number(cond.left, table, cards);
        int right = number(cond.right, table, cards);
        return switch (cond.word) {
            case "=" -> left == right;
            case "!=" -> left != right;
            case "<" -> left < right;
            case "<=" -> left <= right;
            case ">" -> left > right;
            default -> left >= right;
        };
    }

    // ---- making up tricks ----

    private static final class Maker {
        final Random random;
        final List<String> text = new ArrayList<>();
        int stepsLeft = 14;
        int choicesLeft = 5;
        int oneFreeOf = 3;

        Maker(Random random) {
            this.random = random;
        }

        void say(String token) {
            text.add(token);
        }

        int sayPile() {
            // PILE a is where the cards are at first
            int pile = random.nextInt(3) == 0 ? random.nextInt(4) : random.nextInt(2);
            say(PILE_NAMES.substring(pile, pile + 1));
            return pile;
        }

        int sayPileUnlike(int pile) {
            int other = (pile + 1 + random.nextInt(3)) % 4;
            say(PILE_NAMES.substring(other, other + 1));
            return other;
        }

        List<Node> steps(int depth, int often, int most) {
            List<Node> nodes = new ArrayList<>();
            for (int i = 1 + random.nextInt(most); i > 0 && stepsLeft > 0; i--) {
                stepsLeft--;
                nodes.add(step(depth, often));
            }
            return nodes;
        }

        Node step(int depth, int often) {
            String[] words = {"cut", "deal", "move", "take", "turn", "flip", "riffle", "faro", "down", "swap", "mark",
                "times", "if", "if", "cut", "deal", "move"};
            Node node = new Node();
            node.word = words[random.nextInt(words.length)];
            if (depth == 4 && (node.word.equals("times") || node.word.equals("if"))
                    || node.word.equals("riffle") && choicesLeft < often) {
                node.word = "deal";
            }
            say(node.word);
            if (node.word.equals("times")) {
                node.amount = 2 + random.nextInt(2);
                say("" + node.amount);
                block(node.body, depth, often * node.amount);
            } else if (node.word.equals("if")) {
                node.cond = cond(0);
                block(node.body, depth, often);
                if (random.nextBoolean()) {
                    say("else");
                    node.other = new ArrayList<>();
                    block(node.other, depth, often);
                }
            } else {
                plain(node, often);
                say(";");
            }
            return node;
        }

        void block(List<Node> into, int depth, int often) {
            say("{");
            into.addAll(steps(depth + 1, often, 3));
            say("}");
        }

        void plain(Node node, int often) {
            node.pile = sayPile();
            switch (node.word) {
                case "cut", "turn" -> amount(node, 0, often);
                case "deal", "move" -> {
                    amount(node, 0, often);
                    target(node);
                }
                case "take" -> {
                    amount(node, 1, often);
                    target(node);
                }
                case "flip", "mark" -> amount(node, 1, often);
                case "down" -> target(node);
                case "swap" -> node.second = sayPileUnlike(node.pile);
                default -> {
                    node.second = sayPileUnlike(node.pile);
                    say("to");
                    node.target = sayPile();
                    choicesLeft -= node.word.equals("riffle") ? often : 0;
                }
            }
        }

        void target(Node node) {
            say("to");
            node.target = sayPileUnlike(node.pile);
        }

        void amount(Node node, int least, int often) {
            if (choicesLeft >= often && random.nextInt(oneFreeOf) == 0) {
                choicesLeft -= often;
                node.free = true;
                say("free");
            } else if (least == 0 && random.nextInt(5) == 0) {
                node.all = true;
                say("all");
            } else {
                node.amount = least + random.nextInt(random.nextInt(4) == 0 ? 10 - least : 4);
                say((random.nextInt(8) == 0 ? "0" : "") + node.amount);
            }
        }

        Cond cond(int nested) {
            return chain("or", nested);
        }

        Cond chain(String word, int nested) {
            Cond cond = new Cond();
            cond.word = word;
            for (int i = random.nextInt(4) == 0 ? 2 + random.nextInt(2) : 1; i > 0; i--) {
                cond.parts.add(word.equals("or") ? chain("and", nested) : one(nested));
                if (i > 1) {
                    say(word);
                }
            }
            return cond;
        }

        Cond one(int nested) {
            Cond cond = new Cond();
            int kind = random.nextInt(10);
            if (kind == 0 && nested < 8) {
                cond.word = "not";
                say("not");
                cond.parts.add(one(nested + 1));
            } else if (kind == 1 && nested < 8) {
                cond.word = "(";
                say("(");
                cond.parts.add(cond(nested + 1));
                say(")");
            } else if (kind == 2) {
                cond.word = "alike";
                say("alike");
                sayProperty(cond);
            } else if (kind == 3 || kind == 4) {
                cond.word = "each";
                say("each");
                cond.number = 2 + random.nextInt(4);
                say("" + cond.number);
                sayProperty(cond);
            } else if (kind == 5) {
                cond.word = "rising";
                say("rising");
                cond.pile = sayPile();
            } else {
                String[] signs = {"=", "!=", "<", "<=", ">", ">="};
                cond.left = num();
                cond.word = signs[random.nextInt(6)];
                say(cond.word);
                cond.right = num();
            }
            return cond;
        }

        void sayProperty(Cond cond) {
            String[] properties = {"value", "suit", "colour"};
            cond.property = properties[random.nextInt(3)];
            say(cond.property);
            cond.pile = sayPile();
        }

        Num num() {
            String[] words = {"", "", "", "size", "up", "where", "card", "value", "suit", "colour", "face"};
            Num num = new Num();
            num.word = words[random.nextInt(words.length)];
            if (num.word.isEmpty()) {
                num.number = random.nextInt(random.nextInt(5) == 0 ? 100 : 6);
                say("" + num.number);
                return num;
            }
            say(num.word);
            num.pile = sayPile();
            if ("card value suit colour face".contains(num.word)) {
                num.number = 1 + random.nextInt(random.nextInt(4) == 0 ? 9 : 4);
                say("" + num.number);
            }
            return num;
        }
    }

    private static boolean isSign(String token) {
        return !Character.isLetterOrDigit(token.charAt(0));
    }

    /** Joins the tokens, now and then without blanks where none is needed; tells where each one stands. */
    private static String join(List<String> tokens, Random random, List<Integer> places) {
        StringBuilder text = new StringBuilder();
        for (int i = 0; i < tokens.size(); i++) {
            String before = i == 0 ? ";" : tokens.get(i - 1);
            boolean mayTouch = isSign(before) || isSign(tokens.get(i));
            if (!mayTouch || random.nextInt(4) == 0) {
                text.append(random.nextInt(6) == 0 ? "\n" : " ");
            }
            places.add(text.length());
            text.append(tokens.get(i));
        }
        return text.toString();
    }

    // ---- comparing ----

    /** What the model finds by all rows of CHOICES; answer -1 if there are too many rows to try. */
    private static final class Found {
        int answer;
        int ends;
        int holding;
        int[] breaking;
    }

    private static Found tryAllRows(List<Node> trick, Cond claim, int[][] cards, int[] start) {
        Map<String, Set<String>> seen = new HashMap<>();
        Map<String, Boolean> ends = new TreeMap<>();
        Found found = new Found();
        int[] row = {};
        // A try ends, or asks for one CHOICE more, or its last CHOICE is behind all there are.
        for (int tries = 0; row != null; tries++) {
            if (tries > MOST_ROWS) {
                found.answer = isLarge(seen) ? 2 : -1;
                found.ends = Integer.MAX_VALUE;
                return found;
            }
            Performance performance = new Performance(cards, start, row, seen);
            try {
                performance.doAll(trick, "");
                boolean holds = meets(claim, performance.table, cards);
                ends.put(performance.table.shown(), holds);
                if (!holds && found.breaking == null) {
                    found.breaking = row;
                }
                row = next(row);
            } catch (Stuck stuck) {
                row = stuck.choices > 0 ? Arrays.copyOf(row, row.length + 1) : next(Arrays.copyOf(row, row.length - 1));
            }
        }
        found.ends = ends.size();
        found.holding = (int) ends.values().stream().filter(h -> h).count();
        found.answer = isLarge(seen) ? 2 : found.holding == found.ends ? 0 : 1;
        return found;
    }

    private static boolean isLarge(Map<String, Set<String>> seen) {
        return seen.values().stream().anyMatch(s -> s.size() > 3000);
    }

    private static int[] next(int[] row) {
        if (row.length == 0) {
            return null;
        }
        int[] later = row.clone();
        later[row.length - 1]++;
        return later;
    }

    /** Heavy ones have more cards and CHOICES, so that some of them are LARGE. */
    private static int compareOne(Random random, int seed, boolean heavy) {
        TestDesk desk = new TestDesk();
        int n = heavy ? 6 + random.nextInt(4) : 2 + random.nextInt(8);
        desk.cards(n);
        int[][] cards = new int[10][];
        for (int c = 1; c <= 9; c++) {
            cards[c] = new int[] {c, (c - 1) % 4, (c - 1) % 2};
            if (c <= n && random.nextInt(4) == 0) {
                cards[c] = new int[] {1 + random.nextInt(13), random.nextInt(4), random.nextInt(2)};
                desk.card(c, cards[c][0], cards[c][1], cards[c][2]);
            }
        }
        int[] start = randomStart(random, n);
        due(seed, "start()", desk.startWith(start) ? 1 : 0, 1);
        Maker maker = new Maker(random);
        maker.choicesLeft = heavy ? 8 : 5;
        maker.oneFreeOf = heavy ? 1 : 3;
        List<Node> trick = maker.steps(0, 1, heavy ? 12 : 8);
        String text = join(maker.text, random, new ArrayList<>());
        Maker claimMaker = new Maker(random);
        Cond claim = claimMaker.cond(0);
        String claimText = join(claimMaker.text, random, new ArrayList<>());
        if (text.length() > 900 || claimText.length() > 900) {
            return -1;
        }
        due(seed, "trick() of " + text, desk.trickOf(text), 14 - maker.stepsLeft);
        due(seed, "claim() of " + claimText, desk.claimOf(claimText), 0);
        due(seed, "holds() of the START, " + claimText, desk.holds() ? 1 : 0,
                meets(claim, new Layout(start), cards) ? 1 : 0);
        for (int i = 0; i < 6; i++) {
            comparePerformance(desk, random, seed, trick, claim, cards, start);
        }
        Found found = tryAllRows(trick, claim, cards, start);
        if (found.answer < 0) {
            return -1;
        }
        compareRun(desk, seed, found, text + " // " + claimText);
        if (found.ends < 200) {
            compareStack(desk, seed, trick, claim, cards, n);
        }
        return found.answer;
    }

    private static int[] randomStart(Random random, int n) {
        List<Integer> order = new ArrayList<>();
        for (int c = 1; c <= n; c++) {
            order.add(random.nextInt(order.size() + 1), random.nextInt(5) == 0 ? c + 128 : c);
        }
        return order.stream().mapToInt(c -> c).toArray();
    }

    private static void comparePerformance(TestDesk desk, Random random, int seed, List<Node> trick, Cond claim,
            int[][] cards, int[] start) {
        int[] row = new int[random.nextInt(8)];
        for (int i = 0; i < row.length; i++) {
            row[i] = random.nextInt(random.nextInt(6) == 0 ? 256 : 4);
        }
        Performance performance = new Performance(cards, start, row, null);
        boolean stuck = false;
        try {
            performance.doAll(trick, "");
        } catch (Stuck e) {
            stuck = true;
        }
        due(seed, "perform()", desk.performWith(row), stuck ? -1 - performance.done : performance.done);
        due(seed, "count(3)", desk.count(3), performance.taken);
        due(seed, "count(2)", desk.count(2), 0);
        for (int p = 0; p < 4; p++) {
            List<Integer> pile = performance.table.piles.get(p);
            for (int place = 1; place <= 10; place++) {
                int card = place <= pile.size() ? pile.get(place - 1) : 0;
                int want = card + (performance.table.up[card] ? 16 : 0)
                        + (card != 0 && card == performance.table.marked ? 32 : 0);
                due(seed, "look(" + p + ", " + place + ")", desk.look(p, place), want);
            }
        }
        due(seed, "holds() as performed", desk.holds() ? 1 : 0, meets(claim, performance.table, cards) ? 1 : 0);
    }

    private static void compareRun(TestDesk desk, int seed, Found found, String text) {
        due(seed, "run() of " + text, desk.run(), found.answer);
        boolean told = found.answer != 2;
        due(seed, "ends(0) of " + text, desk.ends(0), told ? found.ends : -1);
        due(seed, "ends(1) of " + text, desk.ends(1), told ? found.holding : -1);
        int length = told && found.breaking != null ? found.breaking.length : -1;
        due(seed, "ends(2) of " + text, desk.ends(2), length);
        for (int k = 0; k < 9; k++) {
            due(seed, "choice(" + k + ") of " + text, desk.choice(k), k < length ? found.breaking[k] : -1);
        }
    }

    private static void compareStack(TestDesk desk, int seed, List<Node> trick, Cond claim, int[][] cards, int n) {
        int looks = 12;
        int[] order = new int[n];
        for (int i = 0; i < n; i++) {
            order[i] = i + 1;
        }
        int want = -1;
        for (int number = 0; number < looks && order != null && want < 0; number++) {
            Found found = tryAllRows(trick, claim, cards, order);
            if (found.answer < 0) {
                return;
            }
            if (found.answer == 0) {
                want = number;
                break;
            }
            order = nextOrder(order);
        }
        due(seed, "stack(12)", desk.stack(looks), want);
        for (int k = 1; want >= 0 && k <= n; k++) {
            due(seed, "at(" + k + ") behind stack", desk.at(k), order[k - 1]);
        }
    }

    /** The least of all rows of these cards that is above this one. */
    private static int[] nextOrder(int[] order) {
        for (int keep = order.length - 2; keep >= 0; keep--) {
            int[] rest = Arrays.copyOfRange(order, keep, order.length);
            Arrays.sort(rest);
            for (int i = 0; i < rest.length; i++) {
                if (rest[i] > order[keep]) {
                    int[] later = Arrays.copyOf(order, order.length);
                    later[keep] = rest[i];
                    int at = keep + 1;
                    for (int k = 0; k < rest.length; k++) {
                        if (k != i) {
                            later[at++] = rest[k];
                        }
                    }
                    return later;
                }
            }
        }
        return null;
    }

    // ---- spoiling ----

    private static TestDesk faultDesk = new TestDesk();

    /** A good text with one TOKEN spoilt has its FAULT there, whatever comes behind. */
    private static void spoilOne(Random random, int seed) {
        Maker maker = new Maker(random);
        boolean ofClaim = random.nextInt(4) == 0;
        if (ofClaim) {
            maker.cond(0);
        } else {
            maker.steps(0, 1, 8);
        }
        List<Integer> places = new ArrayList<>();
        String text = join(maker.text, random, places);
        if (text.length() > 880) {
            return;
        }
        for (int i = 0; i < places.size(); i++) {
            int place = places.get(i);
            String head = text.substring(0, place);
            String tail = text.substring(place + maker.text.get(i).length());
            dueFault(seed, ofClaim, head + "# " + tail, 1, place);
            dueFault(seed, ofClaim, head + " zzz " + tail, 2, place + 1);
            dueFault(seed, ofClaim, head + " cut9 " + tail, 1, place + 1);
            dueFault(seed, ofClaim, head + " abcdefghi " + tail, 1, place + 1);
            if (maker.text.get(i).matches("[0-9]+")) {
                dueFault(seed, ofClaim, head + "123" + tail, 1, place);
            }
            if (!ofClaim && !maker.text.get(i).matches("[a-z]{2,}|[{}]")) {
                dueFault(seed, false, head + "  ", 2, head.length() + 2);
            }
        }
    }

    private static void dueFault(int seed, boolean ofClaim, String text, int kind, int place) {
        if (text.length() > 900) {
            return;
        }
        if (faultDesk.callsLeft() < CALLS_FOR_A_TEXT) {
            faultDesk = new TestDesk();
        }
        TestDesk desk = faultDesk;
        due(seed, "the place of the fault of " + text, ofClaim ? desk.claimOf(text) : desk.trickOf(text), -1 - place);
        due(seed, "the fault of " + text, desk.fault(), kind);
    }
}
