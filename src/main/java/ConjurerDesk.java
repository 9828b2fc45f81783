import java.util.NoSuchElementException;

/**
 * A conjurer's desk: card tricks with free choices, and claims about how the cards lie behind them.
 *
 * <p>All rows are made once, with the object, and used again by every call.
 */
public final class ConjurerDesk {
    public static final int NONE = -1;

    private static final int LEAST_CARDS = 2;
    private static final int MOST_CARDS = 9;
    private static final int FIRST_CARDS = 8;
    private static final int PILES = 4;
    private static final int MOST_BYTES = 900;
    private static final int MOST_STEPS = 40;
    private static final int MOST_BRACES = 4;
    private static final int MOST_NESTED = 8;
    private static final int MOST_CHOICES = 8;
    private static final int MOST_DONE = 500;
    private static final int MOST_WAYS = 3000;
    private static final int MOST_LOOKS = 50;

    // A card as it lies is its number, FACE_UP more with its face up.
    private static final int CARD_BITS = 15;
    private static final int FACE_UP = 16;
    private static final int MARKED = 32;
    private static final int TAPE_FACE_UP = 128;

    // The amount of a STEP that says 'free'.
    private static final int ANY = -1;

    private static final int FAULT_NO_TOKEN = 1;
    private static final int FAULT_CANNOT_COME = 2;
    private static final int FAULT_MAY_NOT_STAND = 3;
    private static final int FAULT_TOO_MUCH = 4;
    private static final int FAULT_CHOICES = 5;
    private static final int FAULT_DONE = 6;

    // Kinds of TOKENS. Those of the words stand in the order of Tokens.WORDS, the words of STEPS ahead.
    private static final int CUT = 0;
    private static final int DEAL = 1;
    private static final int MOVE = 2;
    private static final int TAKE = 3;
    private static final int TURN = 4;
    private static final int FLIP = 5;
    private static final int RIFFLE = 6;
    private static final int FARO = 7;
    private static final int DOWN = 8;
    private static final int SWAP = 9;
    private static final int MARK = 10;
    private static final int TIMES = 11;
    private static final int IF = 12;
    private static final int ELSE = 13;
    private static final int TO = 14;
    private static final int ALL = 15;
    private static final int FREE = 16;
    // b, c and d follow.
    private static final int PILE_A = 17;
    private static final int OR = 21;
    private static final int AND = 22;
    private static final int NOT = 23;
    private static final int ALIKE = 24;
    private static final int EACH = 25;
    private static final int RISING = 26;
    private static final int SIZE = 27;
    private static final int UP = 28;
    private static final int WHERE = 29;
    private static final int CARD = 30;
    private static final int VALUE = 31;
    private static final int SUIT = 32;
    private static final int COLOUR = 33;
    private static final int FACE = 34;
    private static final int OTHER_WORD = 35;
    private static final int NUMBER = 36;
    private static final int OPEN_BRACE = 37;
    private static final int CLOSE_BRACE = 38;
    private static final int OPEN = 39;
    private static final int CLOSE = 40;
    private static final int SEMICOLON = 41;
    private static final int EQUAL = 42;
    private static final int UNEQUAL = 43;
    private static final int LESS = 44;
    private static final int LESS_EQUAL = 45;
    private static final int MORE = 46;
    private static final int MORE_EQUAL = 47;
    private static final int NO_TOKEN = 48;
    private static final int TEXT_END = 49;

    private final Tape tape;
    private final Deck deck;
    private final Reader reader;
    private final Table spareTable;
    private final Spread spread;
    private final Show show;
    private final int[] order;
    private Trick theTrick;
    private Trick spareTrick;
    private Conditions theClaim;
    private Conditions spareClaim;
    private boolean told;
    private int toldEnds;
    private int toldHolding;
    private long toldRow;

    public ConjurerDesk() {
        tape = new Tape();
        deck = new Deck();
        reader = new Reader();
        spareTable = new Table(deck);
        spread = new Spread(deck);
        show = new Show(deck, tape);
        order = new int[MOST_CARDS];
        theTrick = new Trick();
        spareTrick = new Trick();
        theClaim = new Conditions();
        spareClaim = new Conditions();
        theClaim.add(EQUAL, Conditions.literal(0), Conditions.literal(0));
        toldRow = Ways.NO_ROW;
    }

    public int feed(int a, int b, int c, int d, int e) {
        if (tape.size > MOST_BYTES - 20) {
            return NONE;
        }
        tape.append(a);
        tape.append(b);
        tape.append(c);
        tape.append(d);
        tape.append(e);
        return tape.size;
    }

    public boolean end(int n) {
        if (n < 0 || n > tape.size) {
            return false;
        }
        tape.size = n;
        return true;
    }

    public boolean cards(int n) {
        if (n < LEAST_CARDS || n > MOST_CARDS) {
            return false;
        }
        deck.renew(n);
        show.forget();
        forgetRun();
        return true;
    }

    public boolean card(int c, int value, int suit, int colour) {
        if (c < 1 || c > deck.cards || value < 1 || value > 13
                || suit < 0 || suit > 3 || colour < 0 || colour > 1) {
            return false;
        }
        deck.describe(c, value, suit, colour);
        return true;
    }

    public boolean start() {
        boolean isStart = tapeIsStart();
        if (isStart) {
            for (int i = 0; i < deck.cards; i++) {
                int given = tape.bytes[i];
                deck.first[i] = (given & CARD_BITS) + (given >= TAPE_FACE_UP ? FACE_UP : 0);
            }
        }
        tape.size = 0;
        return isStart;
    }

    public int trick() {
        reader.readTrick(tape, spareTrick);
        tape.size = 0;
        if (reader.faultKind != 0) {
            return -1 - reader.faultPlace;
        }
        Trick old = theTrick;
        theTrick = spareTrick;
        spareTrick = old;
        return theTrick.size;
    }

    public int claim() {
        reader.readClaim(tape, spareClaim);
        tape.size = 0;
        if (reader.faultKind != 0) {
            return -1 - reader.faultPlace;
        }
        Conditions old = theClaim;
        theClaim = spareClaim;
        spareClaim = old;
        return 0;
    }

    public int fault() {
        return reader.faultKind;
    }

    public int run() {
        forgetRun();
        spread.lookAtAllEnds(theTrick, theClaim, deck.first);
        if (spread.large) {
            return 2;
        }
        told = true;
        toldEnds = spread.ends;
        toldHolding = spread.holding;
        toldRow = spread.breakingRow;
        return toldHolding == toldEnds ? 0 : 1;
    }

    public int ends(int what) {
        if (!told) {
            return NONE;
        }
        switch (what) {
            case 0:
                return toldEnds;
            case 1:
                return toldHolding;
            case 2:
                return toldRow == Ways.NO_ROW ? NONE : Ways.rowLength(toldRow);
            default:
                return NONE;
        }
    }

    public int choice(int k) {
        if (!told || toldRow == Ways.NO_ROW || k < 0 || k >= Ways.rowLength(toldRow)) {
            return NONE;
        }
        return Ways.rowChoice(toldRow, k);
    }

    public int perform() {
        show.play(theTrick);
        tape.size = 0;
        return show.stuck ? -1 - show.done : show.done;
    }

    public int look(int p, int place) {
        if (!show.played) {
            return 0;
        }
        int lying = show.table.cardAt(p, place);
        if (lying == 0) {
            return 0;
        }
        return (lying & CARD_BITS) == show.table.marked ? lying + MARKED : lying;
    }

    public boolean holds() {
        if (show.played) {
            return theClaim.areMet(show.table, 0, theClaim.size);
        }
        spareTable.layRow(deck.first);
        return theClaim.areMet(spareTable, 0, theClaim.size);
    }

    public int stack(int looks) throws IllegalArgumentException {
        if (looks < 1 || looks > MOST_LOOKS) {
            throw new IllegalArgumentException("looks are 1 to 50");
        }
        for (int i = 0; i < deck.cards; i++) {
            order[i] = i + 1;
        }
        for (int number = 0; number < looks; number++) {
            spread.lookAtAllEnds(theTrick, theClaim, order);
            if (!spread.large && spread.holding == spread.ends) {
                deck.beginWith(order);
                return number;
            }
            if (!nextOrder()) {
                return NONE;
            }
        }
        return NONE;
    }

    public int at(int k) throws NoSuchElementException {
        if (k < 1 || k > deck.cards) {
            throw new NoSuchElementException("no card of the start is there");
        }
        int lying = deck.first[k - 1];
        return (lying & CARD_BITS) + (lying >= FACE_UP ? TAPE_FACE_UP : 0);
    }

    public int count(int what) {
        switch (what) {
            case 0:
                return deck.cards;
            case 1:
                return theTrick.size;
            case 2:
                return tape.size;
            case 3:
                return show.taken;
            default:
                return NONE;
        }
    }

    private void forgetRun() {
        told = false;
        toldEnds = 0;
        toldHolding = 0;
        toldRow = Ways.NO_ROW;
    }

    private boolean tapeIsStart() {
        if (tape.size != deck.cards) {
            return false;
        }
        int seen = 0;
        for (int i = 0; i < deck.cards; i++) {
            int number = tape.bytes[i] & (TAPE_FACE_UP - 1);
            if (number < 1 || number > deck.cards || (seen & (1 << number)) != 0) {
                return false;
            }
            seen |= 1 << number;
        }
        return true;
    }

    /** Makes the row of cards the next one in rising order; false if it is the last one. */
    private boolean nextOrder() {
        int rise = deck.cards - 2;
        while (rise >= 0 && order[rise] > order[rise + 1]) {
            rise--;
        }
        if (rise < 0) {
            return false;
        }
        int above = deck.cards - 1;
        while (above > rise && order[above] < order[rise]) {
            above--;
        }
        exchange(rise, above);
        int low = rise + 1;
        int high = deck.cards - 1;
        while (low < high) {
            exchange(low, high);
            low++;
            high--;
        }
        return true;
    }

    private void exchange(int i, int j) {
        int kept = order[i];
        order[i] = order[j];
        order[j] = kept;
    }

    /** The bytes that were fed. */
    private static final class Tape {
        final int[] bytes = new int[MOST_BYTES];
        int size;

        void append(int number) {
            for (int shift = 24; shift >= 0 && size < MOST_BYTES; shift -= 8) {
                bytes[size] = (number >>> shift) & 255;
                size++;
            }
        }
    }

    /** The cards with what is printed on them, and the START. */
    private static final class Deck {
        // Room for every number that CARD_BITS can tell.
        final int[] values = new int[CARD_BITS + 1];
        final int[] suits = new int[CARD_BITS + 1];
        final int[] colours = new int[CARD_BITS + 1];
        final int[] first = new int[MOST_CARDS];
        int cards;

        Deck() {
            renew(FIRST_CARDS);
        }

        void renew(int n) {
            cards = n;
            for (int c = 1; c <= MOST_CARDS; c++) {
                describe(c, c, (c - 1) & 3, (c - 1) & 1);
                first[c - 1] = c;
            }
        }

        void describe(int c, int value, int suit, int colour) {
            values[c] = value;
            suits[c] = suit;
            colours[c] = colour;
        }

        void beginWith(int[] row) {
            for (int i = 0; i < cards; i++) {
                first[i] = row[i];
            }
        }

        /** What a card as it lies has; 0 where there is none. */
        int property(int kind, int lying) {
            int c = lying & CARD_BITS;
            switch (kind) {
                case CARD:
                    return c;
                case FACE:
                    return lying >= FACE_UP ? 1 : 0;
                case VALUE:
                    return values[c];
                case SUIT:
                    return suits[c];
                case COLOUR:
                    return colours[c];
                default:
                    return 0;
            }
        }
    }

    /** A text cut into TOKENS, the last of which is always its end. */
    private static final class Tokens {
        private static final int WORD_ROOM = 8;
        // Each word is filled up with blanks, so that its kind is its place by eights.
        private static final String WORDS =
                "cut     deal    move    take    turn    flip    riffle  faro    down    swap    mark    times   if      else    to      all     free    a       b       c       d       or      and     not     alike   each    rising  size    up      where   card    value   suit    colour  face    ";

        final int[] kinds = new int[MOST_BYTES + 1];
        final int[] places = new int[MOST_BYTES + 1];
        final int[] numbers = new int[MOST_BYTES + 1];
        int size;

        void split(Tape text) {
            size = 0;
            int place = 0;
            for (int i = 0; i < MOST_BYTES && place < text.size; i++) {
                int sign = text.bytes[place];
                if (sign == ' ' || sign == '\n') {
                    place++;
                } else if (isLetter(sign) || isDigit(sign)) {
                    place = addRun(text, place);
                } else {
                    place = addSign(text, place);
                }
            }
            add(TEXT_END, text.size, 0);
        }

        private void add(int kind, int place, int number) {
            if (size <= MOST_BYTES) {
                kinds[size] = kind;
                places[size] = place;
                numbers[size] = number;
                size++;
            }
        }

        private int addRun(Tape text, int from) {
            boolean hasLetter = false;
            boolean hasDigit = false;
            int number = 0;
            int to = from;
            while (to < text.size && (isLetter(text.bytes[to]) || isDigit(text.bytes[to]))) {
                hasLetter = hasLetter || isLetter(text.bytes[to]);
                hasDigit = hasDigit || isDigit(text.bytes[to]);
                number = number * 10 + text.bytes[to] - '0';
                to++;
            }
            if (!hasDigit && to - from <= WORD_ROOM) {
                add(wordKind(text, from, to), from, 0);
            } else if (!hasLetter && to - from <= 2) {
                add(NUMBER, from, number);
            } else {
                add(NO_TOKEN, from, 0);
            }
            return to;
        }

        private int addSign(Tape text, int from) {
            boolean withEqual = from + 1 < text.size && text.bytes[from + 1] == '=';
            int kind = signKind(text.bytes[from], withEqual);
            add(kind, from, 0);
            boolean isDouble = kind == UNEQUAL || kind == LESS_EQUAL || kind == MORE_EQUAL;
            return isDouble ? from + 2 : from + 1;
        }

        private static int signKind(int sign, boolean withEqual) {
            switch (sign) {
                case '{':
                    return OPEN_BRACE;
                case '}':
                    return CLOSE_BRACE;
                case '(':
                    return OPEN;
                case ')':
                    return CLOSE;
                case ';':
                    return SEMICOLON;
                case '=':
                    return EQUAL;
                case '!':
                    return withEqual ? UNEQUAL : NO_TOKEN;
                case '<':
                    return withEqual ? LESS_EQUAL : LESS;
                case '>':
                    return withEqual ? MORE_EQUAL : MORE;
                default:
                    return NO_TOKEN;
            }
        }

        private static int wordKind(Tape text, int from, int to) {
            for (int kind = 0; kind < OTHER_WORD; kind++) {
                if (isWord(kind, text, from, to)) {
                    return kind;
                }
            }
            return OTHER_WORD;
        }

        private static boolean isWord(int kind, Tape text, int from, int to) {
            for (int i = 0; i < WORD_ROOM; i++) {
                int sign = from + i < to ? text.bytes[from + i] : ' ';
                if (WORDS.charAt(kind * WORD_ROOM + i) != sign) {
                    return false;
                }
            }
            return true;
        }

        private static boolean isLetter(int sign) {
            return sign >= 'a' && sign <= 'z';
        }

        private static boolean isDigit(int sign) {
            return sign >= '0' && sign <= '9';
        }
    }

    /** One STEP of a TRICK; those within it stand right behind it in the TRICK's row. */
    private static final class Step {
        int word;
        int pile;
        int second;
        int target;
        // How many cards, which PLACE or how many times; 'all' is 9, as no PILE has more.
        int amount;
        // Where the STEPS of the first { } end and those behind else begin.
        int middle;
        // Where the STEP behind this one stands.
        int after;
        int conditionFrom;
        int conditionTo;

        boolean isFree() {
            return word == RIFFLE || amount == ANY;
        }

        boolean hasPlace() {
            return word == TAKE || word == FLIP || word == MARK;
        }
    }

    /** The STEPS in the order of the text, and the CONDS of its ifs. */
    private static final class Trick {
        final Step[] steps = new Step[MOST_STEPS];
        final Conditions conditions = new Conditions();
        int size;

        Trick() {
            for (int i = 0; i < MOST_STEPS; i++) {
                steps[i] = new Step();
            }
        }

        void clear() {
            size = 0;
            conditions.size = 0;
        }
    }

    /** CONDS, written so that each 'not', 'and', 'or' stands behind what it is about. */
    private static final class Conditions {
        // Each of them takes three bytes of a text, or two as 'or' does.
        private static final int ROOM = MOST_BYTES / 2;

        private final int[] kinds = new int[ROOM];
        private final int[] lefts = new int[ROOM];
        private final int[] rights = new int[ROOM];
        int size;

        void add(int kind, int left, int right) {
            if (size < ROOM) {
                kinds[size] = kind;
                lefts[size] = left;
                rights[size] = right;
                size++;
            }
        }

        static int literal(int number) {
            return NUMBER << 8 | number;
        }

        static int numberOf(int kind, int pile, int place) {
            return kind << 8 | pileAndNumber(pile, place);
        }

        static int pileAndNumber(int pile, int number) {
            return pile << 4 | number;
        }

        /** What is known of the parts is kept as bits of one number: at most 19 wait at once. */
        boolean areMet(Table table, int from, int to) {
            int known = 0;
            for (int i = from; i >= 0 && i < to && i < ROOM; i++) {
                int latest = known & 1;
                switch (kinds[i]) {
                    case NOT:
                        known ^= 1;
                        break;
                    case AND:
                        known = latest == 1 ? known >> 1 : known >> 1 & ~1;
                        break;
                    case OR:
                        known = known >> 1 | latest;
                        break;
                    default:
                        known = known << 1 | (isTrue(table, i) ? 1 : 0);
                        break;
                }
            }
            return (known & 1) == 1;
        }

        private boolean isTrue(Table table, int i) {
            int pile = rights[i] >> 4 & 3;
            switch (kinds[i]) {
                case ALIKE:
                    return table.areAlike(pile, lefts[i]);
                case EACH:
                    return table.areUnlikeByGroups(pile, lefts[i], rights[i] & 15);
                case RISING:
                    return table.isRising(pile);
                default:
                    return compare(kinds[i], valueOf(table, lefts[i]), valueOf(table, rights[i]));
            }
        }

        private static boolean compare(int sign, int left, int right) {
            switch (sign) {
                case EQUAL:
                    return left == right;
                case UNEQUAL:
                    return left != right;
                case LESS:
                    return left < right;
                case LESS_EQUAL:
                    return left <= right;
                case MORE:
                    return left > right;
                default:
                    return left >= right;
            }
        }

        private static int valueOf(Table table, int number) {
            int kind = number >> 8;
            int pile = number >> 4 & 3;
            switch (kind) {
                case NUMBER:
                    return number & 255;
                case SIZE:
                    return table.sizes[pile];
                case UP:
                    return table.facesUp(pile);
                case WHERE:
                    return table.placeOfMarked(pile);
                default:
                    return table.deck.property(kind, table.cardAt(pile, number & 15));
            }
        }
    }

    /**
     * Reads a TRICK or a CLAIM. Behind the first FAULT it goes to the text's end, where nothing more
     * can come and every loop is over.
     */
    private static final class Reader {
        private final Tokens tokens = new Tokens();
        private int next;
        private int kind;
        private int mayDo;
        private int mayChoose;
        int faultKind;
        int faultPlace;

        void readTrick(Tape text, Trick into) {
            begin(text);
            into.clear();
            readSteps(into, 0, 1);
            expect(TEXT_END);
            if (mayChoose > MOST_CHOICES) {
                fail(FAULT_CHOICES);
            } else if (mayDo > MOST_DONE) {
                fail(FAULT_DONE);
            }
        }

        void readClaim(Tape text, Conditions into) {
            begin(text);
            into.size = 0;
            readCondition(into, 0);
            expect(TEXT_END);
        }

        private void begin(Tape text) {
            tokens.split(text);
            next = 0;
            kind = tokens.kinds[0];
            mayDo = 0;
            mayChoose = 0;
            faultKind = 0;
            faultPlace = 0;
        }

        private void goOn() {
            if (next < tokens.size - 1) {
                next++;
                kind = tokens.kinds[next];
            }
        }

        private void fail(int fault) {
            if (faultKind != 0) {
                return;
            }
            faultKind = kind == NO_TOKEN ? FAULT_NO_TOKEN : fault;
            faultPlace = tokens.places[next];
            next = tokens.size - 1;
            kind = TEXT_END;
        }

        private void expect(int wanted) {
            if (kind == wanted) {
                goOn();
            } else {
                fail(FAULT_CANNOT_COME);
            }
        }

        /** Each STEP counts as often as the times round it may do it. */
        private void readSteps(Trick into, int braces, int often) {
            for (int i = 0; i <= MOST_STEPS && kind <= IF; i++) {
                readStep(into, braces, often);
            }
        }

        private void readStep(Trick into, int braces, int often) {
            if (into.size >= MOST_STEPS) {
                fail(FAULT_TOO_MUCH);
                return;
            }
            Step step = into.steps[into.size];
            into.size++;
            step.word = kind;
            step.amount = 0;
            goOn();
            mayDo += often;
            if (step.word == TIMES) {
                step.amount = readNumber(2, 9);
                readBlock(into, braces, often * step.amount);
                step.middle = into.size;
            } else if (step.word == IF) {
                readIf(into, step, braces, often);
            } else {
                readPlainStep(step);
                mayChoose += step.isFree() ? often : 0;
            }
            step.after = into.size;
        }

        private void readIf(Trick into, Step step, int braces, int often) {
            step.conditionFrom = into.conditions.size;
            readCondition(into.conditions, 0);
            step.conditionTo = into.conditions.size;
            readBlock(into, braces, often);
            step.middle = into.size;
            if (kind == ELSE) {
                goOn();
                readBlock(into, braces, often);
            }
        }

        private void readBlock(Trick into, int braces, int often) {
            if (kind == OPEN_BRACE && braces >= MOST_BRACES) {
                fail(FAULT_TOO_MUCH);
                return;
            }
            expect(OPEN_BRACE);
            readSteps(into, braces + 1, often);
            expect(CLOSE_BRACE);
        }

        private void readPlainStep(Step step) {
            step.pile = readPile(NONE);
            switch (step.word) {
                case CUT:
                case TURN:
                    step.amount = readMany();
                    break;
                case DEAL:
                case MOVE:
                    step.amount = readMany();
                    step.target = readTarget(step.pile);
                    break;
                case TAKE:
                    step.amount = readPlace();
                    step.target = readTarget(step.pile);
                    break;
                case FLIP:
                case MARK:
                    step.amount = readPlace();
                    break;
                case DOWN:
                    step.target = readTarget(step.pile);
                    break;
                case SWAP:
                    step.second = readPile(step.pile);
                    break;
                default:
                    step.second = readPile(step.pile);
                    step.target = readTarget(NONE);
                    break;
            }
            expect(SEMICOLON);
        }

        private int readPile(int forbidden) {
            int pile = kind - PILE_A;
            if (pile < 0 || pile >= PILES) {
                fail(FAULT_CANNOT_COME);
                return 0;
            }
            if (pile == forbidden) {
                fail(FAULT_MAY_NOT_STAND);
                return 0;
            }
            goOn();
            return pile;
        }

        private int readTarget(int forbidden) {
            expect(TO);
            return readPile(forbidden);
        }

        private int readMany() {
            if (kind == ALL) {
                goOn();
                return MOST_CARDS;
            }
            return readFreeOrNumber(0);
        }

        private int readPlace() {
            return readFreeOrNumber(1);
        }

        private int readFreeOrNumber(int least) {
            if (kind == FREE) {
                goOn();
                return ANY;
            }
            return readNumber(least, 9);
        }

        private int readNumber(int least, int most) {
            int number = tokens.numbers[next];
            if (kind != NUMBER) {
                fail(FAULT_CANNOT_COME);
                return least;
            }
            if (number < least || number > most) {
                fail(FAULT_MAY_NOT_STAND);
                return least;
            }
            goOn();
            return number;
        }

        private void readCondition(Conditions into, int nested) {
            readBoth(into, nested);
            for (int i = 0; i < MOST_BYTES && kind == OR; i++) {
                goOn();
                readBoth(into, nested);
                into.add(OR, 0, 0);
            }
        }

        private void readBoth(Conditions into, int nested) {
            readOne(into, nested);
            for (int i = 0; i < MOST_BYTES && kind == AND; i++) {
                goOn();
                readOne(into, nested);
                into.add(AND, 0, 0);
            }
        }

        private void readOne(Conditions into, int nested) {
            switch (kind) {
                case NOT:
                case OPEN:
                    readNested(into, nested);
                    break;
                case ALIKE:
                case EACH:
                case RISING:
                    readTest(into);
                    break;
                default:
                    readComparison(into);
                    break;
            }
        }

        private void readNested(Conditions into, int nested) {
            if (nested >= MOST_NESTED) {
                fail(FAULT_TOO_MUCH);
                return;
            }
            if (kind == NOT) {
                goOn();
                readOne(into, nested + 1);
                into.add(NOT, 0, 0);
            } else {
                goOn();
                readCondition(into, nested + 1);
                expect(CLOSE);
            }
        }

        private void readTest(Conditions into) {
            int test = kind;
            goOn();
            int group = test == EACH ? readNumber(2, 9) : 0;
            int property = test == RISING ? VALUE : readProperty();
            int pile = readPile(NONE);
            into.add(test, property, Conditions.pileAndNumber(pile, group));
        }

        private int readProperty() {
            int property = kind;
            if (property < VALUE || property > COLOUR) {
                fail(FAULT_CANNOT_COME);
                return VALUE;
            }
            goOn();
            return property;
        }

        private void readComparison(Conditions into) {
            int left = readNum();
            int sign = kind;
            if (sign < EQUAL || sign > MORE_EQUAL) {
                fail(FAULT_CANNOT_COME);
                return;
            }
            goOn();
            int right = readNum();
            into.add(sign, left, right);
        }

        private int readNum() {
            int word = kind;
            if (word == NUMBER) {
                return Conditions.literal(readNumber(0, 99));
            }
            if (word < SIZE || word > FACE) {
                fail(FAULT_CANNOT_COME);
                return 0;
            }
            goOn();
            int pile = readPile(NONE);
            int place = word >= CARD ? readNumber(1, 9) : 0;
            return Conditions.numberOf(word, pile, place);
        }
    }

    /** How the cards lie: each PILE from its bottom to its top, so that its top is easily reached. */
    private static final class Table {
        // A PILE's room is a power of two above 9: no size that four bits tell leaves it.
        private static final int ROOM = 16;
        private static final int LYING_BITS = 5;
        private static final int SIZES_FROM = 45;
        private static final int MARKED_FROM = 57;
        // How many ways there are to choose k of n: at n * 10 + k.
        private static final int[] WAYS_TO_CHOOSE = {
            1, 0, 0, 0, 0, 0, 0, 0, 0, 0,
            1, 1, 0, 0, 0, 0, 0, 0, 0, 0,
            1, 2, 1, 0, 0, 0, 0, 0, 0, 0,
            1, 3, 3, 1, 0, 0, 0, 0, 0, 0,
            1, 4, 6, 4, 1, 0, 0, 0, 0, 0,
            1, 5, 10, 10, 5, 1, 0, 0, 0, 0,
            1, 6, 15, 20, 15, 6, 1, 0, 0, 0,
            1, 7, 21, 35, 35, 21, 7, 1, 0, 0,
            1, 8, 28, 56, 70, 56, 28, 8, 1, 0,
            1, 9, 36, 84, 126, 126, 84, 36, 9, 1};

        final Deck deck;
        private final int[] lying = new int[PILES * ROOM];
        private final int[] hand = new int[ROOM];
        final int[] sizes = new int[PILES];
        int marked;

        Table(Deck deck) {
            this.deck = deck;
        }

        /** The row's first card lies uppermost in PILE a. */
        void layRow(int[] row) {
            clear();
            for (int i = deck.cards - 1; i >= 0; i--) {
                push(0, row[i]);
            }
        }

        private void clear() {
            marked = 0;
            for (int p = 0; p < PILES; p++) {
                sizes[p] = 0;
            }
        }

        void lay(long packed) {
            int rest = deck.cards;
            for (int p = 0; p < PILES - 1; p++) {
                sizes[p] = (int) (packed >>> (SIZES_FROM + 4 * p)) & 15;
                rest -= sizes[p];
            }
            sizes[PILES - 1] = rest;
            marked = (int) (packed >>> MARKED_FROM) & 15;
            long left = packed;
            for (int p = 0; p < PILES; p++) {
                for (int i = 0; i < sizes[p] && i < ROOM; i++) {
                    lying[p * ROOM + i] = (int) left & 31;
                    left >>>= LYING_BITS;
                }
            }
        }

        /** All that lies, as one number: two tables lie alike just where these are equal. */
        long packed() {
            long packed = (long) marked << MARKED_FROM;
            int shift = 0;
            for (int p = 0; p < PILES; p++) {
                if (p < PILES - 1) {
                    packed |= (long) sizes[p] << (SIZES_FROM + 4 * p);
                }
                for (int i = 0; i < sizes[p] && i < ROOM; i++) {
                    packed |= (long) lying[p * ROOM + i] << shift;
                    shift += LYING_BITS;
                }
            }
            return packed;
        }

        int cardAt(int p, int place) {
            if (p < 0 || p >= PILES || place < 1 || place > sizes[p]) {
                return 0;
            }
            return lying[p * ROOM + sizes[p] - place];
        }

        int facesUp(int p) {
            int up = 0;
            for (int place = 1; place <= sizes[p]; place++) {
                up += deck.property(FACE, cardAt(p, place));
            }
            return up;
        }

        int placeOfMarked(int p) {
            for (int place = 1; place <= sizes[p]; place++) {
                if (deck.property(CARD, cardAt(p, place)) == marked) {
                    return place;
                }
            }
            return 0;
        }

        boolean areAlike(int p, int property) {
            int wanted = deck.property(property, cardAt(p, 1));
            for (int place = 2; place <= sizes[p]; place++) {
                if (deck.property(property, cardAt(p, place)) != wanted) {
                    return false;
                }
            }
            return true;
        }

        /** Cards at the bottom that are too few for a group are not looked at. */
        boolean areUnlikeByGroups(int p, int property, int group) {
            int seen = 0;
            int inGroup = 0;
            boolean twice = false;
            for (int place = 1; place <= sizes[p]; place++) {
                int bit = 1 << deck.property(property, cardAt(p, place));
                twice = twice || (seen & bit) != 0;
                seen |= bit;
                inGroup++;
                if (inGroup == group) {
                    if (twice) {
                        return false;
                    }
                    seen = 0;
                    inGroup = 0;
                }
            }
            return true;
        }

        boolean isRising(int p) {
            for (int place = 2; place <= sizes[p]; place++) {
                int over = deck.property(VALUE, cardAt(p, place - 1));
                if (deck.property(VALUE, cardAt(p, place)) <= over) {
                    return false;
                }
            }
            return true;
        }

        /** How many CHOICES there are at a STEP that is free. */
        int choicesAt(Step step) {
            int size = sizes[step.pile];
            if (step.word == RIFFLE) {
                return waysToRiffle(size, sizes[step.second]);
            }
            if (step.word == CUT || step.hasPlace()) {
                return Math.max(size, 1);
            }
            return size + 1;
        }

        private static int waysToRiffle(int first, int second) {
            if (first < 0 || second < 0 || first + second > MOST_CARDS) {
                return 0;
            }
            return WAYS_TO_CHOOSE[(first + second) * 10 + first];
        }

        /** Does a STEP other than times and if; the CHOICE matters only where it is free. */
        void act(Step step, int choice) {
            int p = step.pile;
            int place = step.amount == ANY ? choice + 1 : step.amount;
            int many = Math.min(step.amount == ANY ? choice : step.amount, sizes[p]);
            switch (step.word) {
                case CUT:
                    cut(p, many);
                    break;
                case DEAL:
                    deal(p, many, step.target);
                    break;
                case MOVE:
                    move(p, many, step.target);
                    break;
                case TAKE:
                    take(p, place, step.target);
                    break;
                case TURN:
                    turn(p, many);
                    break;
                case FLIP:
                    flip(p, place);
                    break;
                case RIFFLE:
                    riffle(step, choice);
                    break;
                case FARO:
                    faro(step);
                    break;
                case DOWN:
                    dealDownUnder(p, step.target);
                    break;
                case SWAP:
                    swap(p, step.second);
                    break;
                default:
                    mark(p, place);
                    break;
            }
        }

        private void push(int p, int card) {
            if (sizes[p] < MOST_CARDS) {
                lying[p * ROOM + sizes[p]] = card;
                sizes[p]++;
            }
        }

        private int pop(int p) {
            if (sizes[p] < 1) {
                return 0;
            }
            sizes[p]--;
            return lying[p * ROOM + sizes[p]];
        }

        private void cut(int p, int many) {
            int size = sizes[p];
            int bottom = p * ROOM;
            for (int i = 0; i < size; i++) {
                hand[i] = lying[bottom + i];
            }
            for (int i = 0; i < many; i++) {
                lying[bottom + i] = hand[size - many + i];
            }
            for (int i = many; i < size; i++) {
                lying[bottom + i] = hand[i - many];
            }
        }

        private void deal(int p, int many, int target) {
            for (int i = 0; i < many; i++) {
                push(target, pop(p));
            }
        }

        private void move(int p, int many, int target) {
            for (int i = 0; i < many; i++) {
                hand[i] = pop(p);
            }
            putHandOn(target, many);
        }

        /** The hand's first card comes uppermost. */
        private void putHandOn(int target, int many) {
            for (int i = many - 1; i >= 0; i--) {
                push(target, hand[i]);
            }
        }

        private void take(int p, int place, int target) {
            int taken = cardAt(p, place);
            if (taken == 0) {
                return;
            }
            for (int i = sizes[p] - place; i < sizes[p] - 1; i++) {
                lying[p * ROOM + i] = lying[p * ROOM + i + 1];
            }
            sizes[p]--;
            push(target, taken);
        }

        private void turn(int p, int many) {
            for (int i = 0; i < many; i++) {
                hand[i] = pop(p) ^ FACE_UP;
            }
            for (int i = 0; i < many; i++) {
                push(p, hand[i]);
            }
        }

        private void flip(int p, int place) {
            if (cardAt(p, place) != 0) {
                lying[p * ROOM + sizes[p] - place] ^= FACE_UP;
            }
        }

        private void riffle(Step step, int way) {
            int p = step.pile;
            int q = step.second;
            int total = sizes[p] + sizes[q];
            int left = way;
            for (int i = 0; i < total && i < ROOM; i++) {
                int waysWithFirst = waysToRiffle(sizes[p] - 1, sizes[q]);
                if (left < waysWithFirst) {
                    hand[i] = pop(p);
                } else {
                    left -= waysWithFirst;
                    hand[i] = pop(q);
                }
            }
            putHandOn(step.target, total);
        }

        private void faro(Step step) {
            int p = step.pile;
            int q = step.second;
            int total = sizes[p] + sizes[q];
            boolean firstsTurn = true;
            for (int i = 0; i < total && i < ROOM; i++) {
                boolean fromFirst = sizes[q] == 0 || (firstsTurn && sizes[p] > 0);
                hand[i] = pop(fromFirst ? p : q);
                firstsTurn = !firstsTurn;
            }
            putHandOn(step.target, total);
        }

        private void dealDownUnder(int p, int target) {
            for (int i = 0; i < MOST_CARDS && sizes[p] > 0; i++) {
                push(target, pop(p));
                cut(p, Math.min(1, sizes[p]));
            }
        }

        private void swap(int p, int q) {
            for (int i = 0; i < ROOM; i++) {
                int kept = lying[p * ROOM + i];
                lying[p * ROOM + i] = lying[q * ROOM + i];
                lying[q * ROOM + i] = kept;
            }
            int size = sizes[p];
            sizes[p] = sizes[q];
            sizes[q] = size;
        }

        private void mark(int p, int place) {
            int found = cardAt(p, place);
            if (found != 0) {
                marked = found & CARD_BITS;
            }
        }
    }

    /**
     * Unlike ways in which the cards may lie at one point of a TRICK, each with the first row of CHOICES
     * that leads there. The first row is enough: no row that leads to a point goes on from another one
     * that does, so what comes behind them can't change which of them is ahead.
     *
     * <p>A row of CHOICES is one number, that rows may be compared as numbers: seven bits for each
     * CHOICE (one more than it, so that 0 is none), the first one highest; below them how many there are.
     */
    private static final class Ways {
        static final long NO_ROW = -1L;
        private static final int FIRST_CHOICE_FROM = 53;
        private static final int CHOICE_BITS = 7;
        private static final int SLOTS = 4096;
        private static final int SLOT_FROM = 52;
        private static final long MIXER = 0x9E3779B97F4A7C15L;

        final long[] lies = new long[MOST_WAYS];
        final long[] rows = new long[MOST_WAYS];
        // The slots that are taken, so that clearing costs no more than filling did.
        private final int[] taken = new int[MOST_WAYS];
        // One more than the place in the rows above, 0 if free.
        private final int[] slots = new int[SLOTS];
        int size;

        void clear() {
            for (int i = 0; i < size && i < MOST_WAYS; i++) {
                slots[taken[i]] = 0;
            }
            size = 0;
        }

        /** Answers false if there is no room for one way more. */
        boolean put(long lie, long row) {
            int slot = (int) ((lie * MIXER) >>> SLOT_FROM);
            for (int i = 0; i < SLOTS; i++) {
                int found = slots[slot] - 1;
                if (found < 0) {
                    return append(slot, lie, row);
                }
                if (lies[found] == lie) {
                    rows[found] = Math.min(rows[found], row);
                    return true;
                }
                slot = (slot + 1) & (SLOTS - 1);
            }
            return false;
        }

        private boolean append(int slot, long lie, long row) {
            if (size >= MOST_WAYS) {
                return false;
            }
            lies[size] = lie;
            rows[size] = row;
            taken[size] = slot;
            size++;
            slots[slot] = size;
            return true;
        }

        static int rowLength(long row) {
            return (int) row & 15;
        }

        static int rowChoice(long row, int k) {
            return ((int) (row >>> (FIRST_CHOICE_FROM - CHOICE_BITS * k)) & 127) - 1;
        }

        static long longerRow(long row, int choice) {
            int length = rowLength(row);
            if (length >= MOST_CHOICES) {
                return row;
            }
            return row + ((long) (choice + 1) << (FIRST_CHOICE_FROM - CHOICE_BITS * length)) + 1;
        }
    }

    /** Finds ALL ENDS: the ways behind each STEP are made from those ahead of it. */
    private static final class Spread {
        private final Table table;
        private Ways now = new Ways();
        private Ways next = new Ways();
        // Those that wait for the other way of an if, one for each depth of { }.
        private final Ways[] waiting = new Ways[MOST_BRACES];
        boolean large;
        int ends;
        int holding;
        long breakingRow;

        Spread(Deck deck) {
            table = new Table(deck);
            for (int i = 0; i < MOST_BRACES; i++) {
                waiting[i] = new Ways();
            }
        }

        /** The row is the START; behind a LARGE run the numbers that are told mean nothing. */
        void lookAtAllEnds(Trick trick, Conditions claim, int[] row) {
            large = false;
            now.clear();
            table.layRow(row);
            now.put(table.packed(), 0);
            doSteps(trick, 0, trick.size, 0);
            if (!large) {
                judge(claim);
            }
        }

        private void judge(Conditions claim) {
            ends = now.size;
            holding = 0;
            breakingRow = Ways.NO_ROW;
            for (int i = 0; i < now.size; i++) {
                table.lay(now.lies[i]);
                if (claim.areMet(table, 0, claim.size)) {
                    holding++;
                } else if (breakingRow == Ways.NO_ROW || now.rows[i] < breakingRow) {
                    breakingRow = now.rows[i];
                }
            }
        }

        private void doSteps(Trick trick, int from, int to, int depth) {
            if (depth > MOST_BRACES) {
                return;
            }
            int place = from;
            for (int i = 0; i < MOST_STEPS && place < to && !large && now.size > 0; i++) {
                Step step = trick.steps[place];
                if (step.word == TIMES) {
                    for (int k = 0; k < step.amount; k++) {
                        doSteps(trick, place + 1, step.after, depth + 1);
                    }
                } else if (step.word == IF) {
                    doIf(trick, place, depth);
                } else {
                    doPlainStep(step);
                }
                place = step.after;
            }
        }

        private void doPlainStep(Step step) {
            boolean free = step.isFree();
            next.clear();
            for (int i = 0; i < now.size && !large; i++) {
                table.lay(now.lies[i]);
                int choices = free ? table.choicesAt(step) : 1;
                for (int choice = 0; choice < choices && !large; choice++) {
                    if (choice > 0) {
                        table.lay(now.lies[i]);
                    }
                    table.act(step, choice);
                    long row = free ? Ways.longerRow(now.rows[i], choice) : now.rows[i];
                    large = !next.put(table.packed(), row);
                }
            }
            exchange();
        }

        private void exchange() {
            Ways old = now;
            now = next;
            next = old;
        }

        private void doIf(Trick trick, int place, int depth) {
            if (depth >= MOST_BRACES) {
                return;
            }
            Step step = trick.steps[place];
            Ways others = waiting[depth];
            others.clear();
            next.clear();
            for (int i = 0; i < now.size; i++) {
                table.lay(now.lies[i]);
                boolean met = trick.conditions.areMet(table, step.conditionFrom, step.conditionTo);
                Ways side = met ? next : others;
                side.put(now.lies[i], now.rows[i]);
            }
            exchange();
            doSteps(trick, place + 1, step.middle, depth + 1);
            Ways done = now;
            now = others;
            doSteps(trick, step.middle, step.after, depth + 1);
            for (int i = 0; i < now.size && !large; i++) {
                large = !done.put(now.lies[i], now.rows[i]);
            }
            // What was emptied takes the place of what was used, that no two names mean one set.
            waiting[depth] = now;
            now = done;
        }
    }

    /** A TRICK PERFORMED with the tape's bytes as CHOICES. */
    private static final class Show {
        private final Deck deck;
        private final Tape tape;
        final Table table;
        boolean played;
        boolean stuck;
        int done;
        int taken;

        Show(Deck deck, Tape tape) {
            this.deck = deck;
            this.tape = tape;
            table = new Table(deck);
        }

        void forget() {
            played = false;
            stuck = false;
            done = 0;
            taken = 0;
        }

        void play(Trick trick) {
            forget();
            played = true;
            table.layRow(deck.first);
            doSteps(trick, 0, trick.size, 0);
        }

        private void doSteps(Trick trick, int from, int to, int depth) {
            if (depth > MOST_BRACES) {
                return;
            }
            int place = from;
            for (int i = 0; i < MOST_STEPS && place < to && !stuck; i++) {
                Step step = trick.steps[place];
                if (step.word == TIMES) {
                    for (int k = 0; k < step.amount; k++) {
                        doSteps(trick, place + 1, step.after, depth + 1);
                    }
                } else if (step.word == IF) {
                    doIf(trick, place, depth);
                } else {
                    doPlainStep(step);
                }
                done += stuck ? 0 : 1;
                place = step.after;
            }
        }

        private void doIf(Trick trick, int place, int depth) {
            Step step = trick.steps[place];
            if (trick.conditions.areMet(table, step.conditionFrom, step.conditionTo)) {
                doSteps(trick, place + 1, step.middle, depth + 1);
            } else {
                doSteps(trick, step.middle, step.after, depth + 1);
            }
        }

        private void doPlainStep(Step step) {
            int choice = 0;
            if (step.isFree()) {
                if (taken >= tape.size || tape.bytes[taken] >= table.choicesAt(step)) {
                    stuck = true;
                    return;
                }
                choice = tape.bytes[taken];
                taken++;
            }
            table.act(step, choice);
        }
    }
}
