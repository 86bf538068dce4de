import java.util.Arrays;

/**
 * A castle of cards on a table, as DOC.md describes it: parsed from a text,
 * built up and taken down, shaken, and asked what is and what would be.
 */
public final class CardCastle {
    public static final int NONE = -1;

    private static final int MOST_BYTES = 900;
    private static final int BYTES_AN_INT = 4;
    private static final int BYTES_A_CALL = 20;

    private static final int MOST_CARDS = 40;
    private static final int MOST_LETTERS = 6;
    private static final int MOST_DIGITS = 3;
    private static final int MOST_OF_A_CARD = 9;
    private static final int LEAST_ANGLE = 20;
    private static final int MOST_ANGLE = 70;
    private static final int BEST_ANGLE = 45;
    private static final int MOST_FORCE = 99;
    private static final int MOST_TICKS = 100;
    private static final int MOST_TIME = 9999;
    private static final int MOST_TREMORS = 50;
    private static final int FALLS_TOLD = 30;
    private static final int FALL_PARTS = 5;
    private static final int CHANGES_KEPT = 8;
    private static final int SLOTS = 2;

    // A spot is the number of a place in the rows of the castle: the rows are
    // as long as the widest and highest castle needs, so that they are made once.
    private static final int MOST_COLUMNS = 12;
    private static final int MOST_LEVELS = 8;
    private static final int SPOTS = MOST_COLUMNS * MOST_LEVELS;

    // The settings, in the order of the text and of setting().
    private static final int SETTINGS = 6;
    private static final int WIDE = 0;
    private static final int LEVELS = 1;
    private static final int LIMIT = 2;
    private static final int DAMP = 3;
    private static final int CALM = 4;
    private static final int BEND = 5;
    private static final int[] LEAST_SETTINGS = {2, 1, 1, 0, 0, 0};
    private static final int[] MOST_SETTINGS = {12, 8, 99, 9, 20, 8};

    // Where a card is, when it is at no spot.
    private static final int IN_THE_HAND = -1;
    private static final int ON_THE_HEAP = -2;

    // What fell, and the causes of a fall.
    private static final int A_PAIR = 0;
    private static final int A_FLAT = 1;
    private static final int CAUSES = 4;
    private static final int BY_LOAD = 0;
    private static final int BY_WOBBLE = 1;
    private static final int FROM_BELOW = 2;
    private static final int BY_PULLING = 3;
    private static final String CAUSE_LETTERS = "lwbx";

    // The error codes of a text.
    private static final int NOT_ALLOWED = 1;
    private static final int OUT_OF_BOUNDS = 2;
    private static final int WRONG_NAME = 3;
    private static final int TOO_MANY_CARDS = 4;
    private static final int NOT_BUILT = 5;

    // The kinds of tokens.
    private static final int THE_END = 0;
    private static final int A_WORD = 1;
    private static final int A_NUMBER = 2;
    private static final int A_SEMICOLON = 3;
    private static final int NO_TOKEN = 4;

    // A name is held as a number with five bits for each letter, which are never 0.
    private static final int LETTER_BITS = 5;
    private static final int LETTER_MASK = 31;
    private static final int BEFORE_A = 'a' - 1;

    // The longest text: 30 falls of at most 6 signs, and the spaces between them.
    private static final int TEXT_BYTES = 240;

    private final Input input = new Input();
    private final Rules rules = new Rules();
    private final Scale scale = new Scale();
    private final Parser parser = new Parser(input, scale);
    private final Castle castle = new Castle(rules, scale);
    private final Castle trial = new Castle(rules, scale);
    private final History history = new History(rules, scale);
    private final Castle[] saved = new Castle[SLOTS];
    private final boolean[] isSaved = new boolean[SLOTS];
    private final Text text = new Text();
    private boolean loaded = false;

    public CardCastle() {
        for (int slot = 0; slot < SLOTS; slot++) {
            saved[slot] = new Castle(rules, scale);
        }
    }

    // ---- input

    public int append(int a, int b, int c, int d, int e) {
        if (input.length + BYTES_A_CALL > MOST_BYTES) {
            return NONE;
        }
        input.addFour(a);
        input.addFour(b);
        input.addFour(c);
        input.addFour(d);
        input.addFour(e);
        return input.length;
    }

    public int load(int n) throws IndexOutOfBoundsException, IllegalArgumentException {
        needBuffered(n);
        boolean parsed = parser.readText(n);
        input.length = 0;
        need(parsed);
        rules.copyFrom(parser.rules);
        castle.copyFrom(parser.castle);
        castle.settle();
        history.kept = 0;
        for (int slot = 0; slot < SLOTS; slot++) {
            isSaved[slot] = false;
        }
        loaded = true;
        return rules.cards;
    }

    public int parseError() {
        return parser.error;
    }

    public int errorPosition() {
        return parser.errorAt;
    }

    public int buffered() {
        return input.length;
    }

    public int find(int n) throws IllegalStateException, IndexOutOfBoundsException {
        needText();
        needBuffered(n);
        int name = input.nameAt(0, n);
        input.length = 0;
        return rules.cardNamed(name);
    }

    // ---- what there is

    public int count(int what) throws IllegalStateException, IllegalArgumentException {
        needText();
        needRange(what, 0, 12);
        switch (what) {
            case 0: return rules.cards;
            case 1: return castle.cards.handSize();
            case 2: return castle.cards.heaped;
            case 3: return castle.grid.pairs();
            case 4: return castle.grid.flats();
            case 5: return castle.time;
            case 6: return castle.log.noted;
            case 11: return castle.tremors;
            case 12: return rules.places();
            default: return castle.log.notedFor(what - 7);
        }
    }

    public int setting(int what) throws IllegalStateException, IllegalArgumentException {
        needText();
        needRange(what, 0, SETTINGS - 1);
        return rules.settings[what];
    }

    public int card(int card, int what) throws IllegalStateException, IndexOutOfBoundsException, IllegalArgumentException {
        needCard(card);
        needRange(what, 0, 5);
        int spot = castle.cards.spots[card];
        switch (what) {
            case 0: return castle.cards.stiffness[card];
            case 1: return rules.weights[card];
            case 2: return castle.whereIs(card);
            case 3: return spot < 0 ? NONE : levelOf(spot);
            case 4: return spot < 0 ? NONE : columnOf(spot);
            default: return castle.cards.bends[card];
        }
    }

    public int pair(int level, int column, int what) throws IllegalStateException, IndexOutOfBoundsException, IllegalArgumentException {
        needPlace(level, column);
        needRange(what, 0, 6);
        int spot = rules.spotOf(level, column);
        if (!castle.grid.pairAt(spot)) {
            return NONE;
        }
        scale.weigh(castle);
        switch (what) {
            case 0: return castle.grid.first[spot];
            case 1: return castle.grid.second[spot];
            case 2: return castle.grid.angle[spot];
            case 3: return castle.grid.wobble[spot];
            case 4: return castle.strengthAt(spot);
            case 5: return scale.pairLoads[spot];
            default: return castle.reserveAt(spot);
        }
    }

    public int flat(int level, int column, int what) throws IllegalStateException, IndexOutOfBoundsException, IllegalArgumentException {
        needPlace(level, column);
        needRange(what, 0, 3);
        int spot = rules.spotOf(level, column);
        if (!castle.grid.flatAt(spot)) {
            return NONE;
        }
        scale.weigh(castle);
        switch (what) {
            case 0: return castle.grid.flat[spot];
            case 1: return scale.flatLoads[spot];
            case 2: return leftShare(scale.flatLoads[spot]);
            default: return rightShare(scale.flatLoads[spot]);
        }
    }

    public int fall(int index, int what) throws IllegalStateException, IndexOutOfBoundsException, IllegalArgumentException {
        needText();
        needIndex(index, castle.log.told());
        needRange(what, 0, FALL_PARTS - 1);
        return castle.log.part(index, what);
    }

    public int inHand(int index) throws IllegalStateException, IndexOutOfBoundsException {
        needText();
        needIndex(index, castle.cards.handSize());
        return castle.cards.handCard(index);
    }

    public int onHeap(int index) throws IllegalStateException, IndexOutOfBoundsException {
        needText();
        needIndex(index, castle.cards.heaped);
        return castle.cards.heap[index];
    }

    public boolean canLean(int level, int column) throws IllegalStateException, IndexOutOfBoundsException {
        needPlace(level, column);
        return castle.pairFits(level, column);
    }

    public boolean canLay(int level, int column) throws IllegalStateException, IndexOutOfBoundsException {
        needPlace(level, column);
        return castle.flatFits(level, column);
    }

    // ---- looks

    public int top() throws IllegalStateException {
        needText();
        int greatest = NONE;
        for (int spot = 0; spot < SPOTS; spot++) {
            if (castle.grid.pairAt(spot)) {
                greatest = levelOf(spot);
            }
        }
        return greatest;
    }

    public int weakest() throws IllegalStateException {
        needText();
        return placeCode(castle.weakestSpot());
    }

    public int shakiest() throws IllegalStateException {
        needText();
        return placeCode(castle.grid.shakiestSpot());
    }

    public int supported(int level, int column) throws IllegalStateException, IndexOutOfBoundsException {
        needPlace(level, column);
        trial.copyFrom(castle);
        return trial.letPairFall(level, column);
    }

    public int above(int level, int column) throws IllegalStateException, IndexOutOfBoundsException {
        needPlace(level, column);
        int spot = rules.spotOf(level, column);
        trial.copyFrom(castle);
        trial.letPairFall(level, column);
        return castle.builtWeight() - trial.builtWeight() - castle.weightOfPair(spot);
    }

    public int onTable(int column) throws IllegalStateException, IndexOutOfBoundsException {
        needPlace(0, column);
        int spot = rules.spotOf(0, column);
        if (!castle.grid.pairAt(spot)) {
            return 0;
        }
        scale.weigh(castle);
        return scale.pairLoads[spot] + castle.weightOfPair(spot);
    }

    public int weight() throws IllegalStateException {
        needText();
        return castle.builtWeight();
    }

    public double meanReserve() throws IllegalStateException {
        needText();
        int pairs = castle.grid.pairs();
        if (pairs == 0) {
            return 0.0;
        }
        return (double) castle.sumOfReserves() / (double) pairs;
    }

    public float builtShare() throws IllegalStateException {
        needText();
        int places = rules.places();
        if (places == 0) {
            return 0.0f;
        }
        return (float) castle.grid.pairs() / (float) places;
    }

    public int strengthOf(int card, int other, int angle) throws IllegalStateException, IndexOutOfBoundsException, IllegalArgumentException {
        needCard(card);
        needCard(other);
        need(card != other);
        needRange(angle, LEAST_ANGLE, MOST_ANGLE);
        return strengthFor(castle.cards.stiffness[card] + castle.cards.stiffness[other], angle);
    }

    public int stiffest() throws IllegalStateException {
        needText();
        int best = NONE;
        int greatest = 0;
        for (int first = 0; first < rules.cards; first++) {
            for (int second = first + 1; second < rules.cards; second++) {
                int sum = castle.cards.stiffness[first] + castle.cards.stiffness[second];
                if (sum > greatest && castle.cards.isHeld(first) && castle.cards.isHeld(second)) {
                    greatest = sum;
                    best = 100 * first + second;
                }
            }
        }
        return best;
    }

    // ---- what would be (nothing is changed)

    public int fallsBy(int force, int column) throws IllegalStateException, IllegalArgumentException {
        needTremor(force, column);
        trial.copyFrom(castle);
        return trial.quake(force, column);
    }

    public int leastForce(int column) throws IllegalStateException, IllegalArgumentException {
        needTremor(MOST_FORCE, column);
        for (int force = 1; force <= MOST_FORCE; force++) {
            if (castle.shakenDownBy(force, column, 1)) {
                return force;
            }
        }
        return NONE;
    }

    public int worstColumn(int force) throws IllegalStateException, IllegalArgumentException {
        needTremor(force, 0);
        int worst = 0;
        int most = 0;
        for (int column = 0; column < rules.settings[WIDE]; column++) {
            trial.copyFrom(castle);
            int falls = trial.quake(force, column);
            if (falls > most) {
                most = falls;
                worst = column;
            }
        }
        return worst;
    }

    public int calmIn() throws IllegalStateException {
        needText();
        int spot = castle.grid.shakiestSpot();
        int wobble = castle.grid.pairAt(spot) ? castle.grid.wobble[spot] : 0;
        int calm = rules.settings[CALM];
        if (wobble == 0) {
            return 0;
        }
        return calm < 1 ? NONE : (wobble + calm - 1) / calm;
    }

    public int tremorsTo(int force, int column) throws IllegalStateException, IllegalArgumentException {
        needTremor(force, column);
        for (int tremors = 1; tremors <= MOST_TREMORS; tremors++) {
            if (castle.shakenDownBy(force, column, tremors)) {
                return tremors;
            }
        }
        return NONE;
    }

    public int fallsIfPulled(int card) throws IllegalStateException, IndexOutOfBoundsException {
        needCard(card);
        trial.copyFrom(castle);
        return trial.pullOut(card);
    }

    public int safest(int card) throws IllegalStateException, IndexOutOfBoundsException {
        needCard(card);
        if (!castle.cards.isHeld(card)) {
            return NONE;
        }
        trial.copyFrom(castle);
        int best = NONE;
        int greatest = NONE;
        for (int spot = 0; spot < SPOTS; spot++) {
            if (trial.flatFits(levelOf(spot), columnOf(spot))) {
                int reserve = leastReserveWith(spot, card);
                if (reserve > greatest) {
                    greatest = reserve;
                    best = spot;
                }
            }
        }
        return placeCode(best);
    }

    public int bestAngle(int level, int column) throws IllegalStateException, IndexOutOfBoundsException {
        needPlace(level, column);
        int spot = rules.spotOf(level, column);
        if (!castle.grid.pairAt(spot)) {
            return NONE;
        }
        int best = LEAST_ANGLE;
        for (int angle = LEAST_ANGLE; angle <= MOST_ANGLE; angle++) {
            if (strengthFor(castle.stiffnessAt(spot), angle) > strengthFor(castle.stiffnessAt(spot), best)) {
                best = angle;
            }
        }
        return best;
    }

    // ---- texts

    public int writeLevel(int level) throws IllegalStateException, IndexOutOfBoundsException {
        needText();
        needIndex(level, rules.settings[LEVELS]);
        text.length = 0;
        for (int column = 0; column < rules.columnsAt(level); column++) {
            int spot = rules.spotOf(level, column);
            text.put(castle.grid.pairAt(spot) ? 'A' : castle.grid.flatAt(spot) ? '_' : ' ');
        }
        return text.length;
    }

    public int writePair(int level, int column) throws IllegalStateException, IndexOutOfBoundsException {
        needPlace(level, column);
        int spot = rules.spotOf(level, column);
        text.length = 0;
        if (!castle.grid.pairAt(spot)) {
            text.put('-');
            return text.length;
        }
        scale.weigh(castle);
        text.putName(rules.names[castle.grid.first[spot]]);
        text.put('/');
        text.putNumber(castle.grid.angle[spot]);
        text.put('\\');
        text.putName(rules.names[castle.grid.second[spot]]);
        text.put(' ');
        text.putNumber(scale.pairLoads[spot]);
        text.put(':');
        text.putNumber(castle.strengthAt(spot));
        return text.length;
    }

    public int writeFalls() throws IllegalStateException {
        needText();
        text.length = 0;
        for (int index = 0; index < castle.log.told(); index++) {
            if (index > 0) {
                text.put(' ');
            }
            text.put(castle.log.part(index, 3) == A_PAIR ? 'p' : 'f');
            text.putNumber(castle.log.part(index, 1));
            text.put('.');
            text.putNumber(castle.log.part(index, 2));
            text.put(causeLetter(castle.log.part(index, 4)));
        }
        return text.length;
    }

    public int textByte(int i) throws IndexOutOfBoundsException {
        needIndex(i, text.length);
        return text.signs[i];
    }

    // ---- changes (each can be undone, the latest one first)

    public int lean(int level, int column, int card, int other, int angle) throws IllegalStateException, IndexOutOfBoundsException, IllegalArgumentException {
        needPlace(level, column);
        needCard(card);
        needCard(other);
        need(castle.pairFits(level, column) && card != other);
        need(castle.cards.isHeld(card) && castle.cards.isHeld(other));
        needRange(angle, LEAST_ANGLE, MOST_ANGLE);
        history.keep(castle);
        castle.putPair(rules.spotOf(level, column), card, other, angle);
        return castle.settle();
    }

    public int lay(int level, int column, int card) throws IllegalStateException, IndexOutOfBoundsException, IllegalArgumentException {
        needPlace(level, column);
        needCard(card);
        need(castle.flatFits(level, column) && castle.cards.isHeld(card));
        history.keep(castle);
        castle.putFlat(rules.spotOf(level, column), card);
        return castle.settle();
    }

    public int pull(int card) throws IllegalStateException, IndexOutOfBoundsException, IllegalArgumentException {
        needCard(card);
        need(castle.cards.isBuiltIn(card));
        history.keep(castle);
        return castle.pullOut(card);
    }

    public int takeDown(int level, int column) throws IllegalStateException, IndexOutOfBoundsException, IllegalArgumentException {
        needPlace(level, column);
        need(castle.hasPair(level, column) && castle.isBare(level, column));
        history.keep(castle);
        castle.pairToHand(rules.spotOf(level, column));
        return castle.cards.handSize();
    }

    public int lift(int level, int column) throws IllegalStateException, IndexOutOfBoundsException, IllegalArgumentException {
        needPlace(level, column);
        need(castle.hasFlat(level, column) && !castle.hasPair(level, column));
        history.keep(castle);
        castle.flatToHand(rules.spotOf(level, column));
        return castle.cards.handSize();
    }

    public int pickUp(int card) throws IllegalStateException, IndexOutOfBoundsException, IllegalArgumentException {
        needCard(card);
        need(castle.cards.spots[card] == ON_THE_HEAP);
        history.keep(castle);
        castle.cards.takeFromHeap(card);
        return castle.cards.heaped;
    }

    public int tremor(int force, int column) throws IllegalStateException, IllegalArgumentException {
        needTremor(force, column);
        history.keep(castle);
        return castle.quake(force, column);
    }

    public int tick(int ticks) throws IllegalStateException, IllegalArgumentException {
        needText();
        needRange(ticks, 1, MOST_TICKS);
        need(castle.time + ticks <= MOST_TIME);
        history.keep(castle);
        castle.time += ticks;
        return castle.grid.calmDown(ticks * rules.settings[CALM]);
    }

    public int turn(int level, int column, int angle) throws IllegalStateException, IndexOutOfBoundsException, IllegalArgumentException {
        needPlace(level, column);
        need(castle.hasPair(level, column));
        needRange(angle, LEAST_ANGLE, MOST_ANGLE);
        history.keep(castle);
        castle.grid.angle[rules.spotOf(level, column)] = angle;
        return castle.settle();
    }

    public int smooth(int card) throws IllegalStateException, IndexOutOfBoundsException, IllegalArgumentException {
        needCard(card);
        need(castle.cards.isHeld(card) && castle.cards.stiffness[card] < rules.stiffness[card]);
        history.keep(castle);
        castle.cards.stiffness[card]++;
        return castle.cards.stiffness[card];
    }

    public int undo() throws IllegalStateException {
        needState(history.kept > 0);
        history.bringBack(castle);
        return history.kept;
    }

    public int undoable() {
        return history.kept;
    }

    public int save(int slot) throws IllegalStateException, IndexOutOfBoundsException {
        needText();
        needIndex(slot, SLOTS);
        saved[slot].copyFrom(castle);
        isSaved[slot] = true;
        return castle.time;
    }

    public int restore(int slot) throws IndexOutOfBoundsException, IllegalStateException {
        needIndex(slot, SLOTS);
        needState(isSaved[slot]);
        castle.copyFrom(saved[slot]);
        history.kept = 0;
        return castle.time;
    }

    // ---- what the calls need

    private static void needState(boolean holds) {
        if (!holds) {
            throw new IllegalStateException("there is nothing for this call");
        }
    }

    private static void needIndex(int index, int size) {
        if (index < 0 || index >= size) {
            throw new IndexOutOfBoundsException("no such card, place or index");
        }
    }

    private static void need(boolean holds) {
        if (!holds) {
            throw new IllegalArgumentException("not possible with these arguments");
        }
    }

    private static void needRange(int value, int least, int most) {
        need(value >= least && value <= most);
    }

    private void needBuffered(int n) {
        needIndex(n, input.length + 1);
    }

    private void needText() {
        needState(loaded);
    }

    private void needCard(int card) {
        needText();
        needIndex(card, rules.cards);
    }

    private void needPlace(int level, int column) {
        needText();
        needIndex(column, rules.columnsAt(level));
    }

    private void needTremor(int force, int column) {
        needText();
        needRange(force, 1, MOST_FORCE);
        needRange(column, 0, rules.settings[WIDE] - 1);
    }

    // ---- small helpers

    private int leastReserveWith(int spot, int card) {
        trial.putFlat(spot, card);
        int weakest = trial.weakestSpot();
        int reserve = weakest == NONE ? NONE : trial.reserveAt(weakest);
        trial.flatToHand(spot);
        return reserve;
    }

    private static int levelOf(int spot) {
        return spot / MOST_COLUMNS;
    }

    private static int columnOf(int spot) {
        return spot % MOST_COLUMNS;
    }

    private static int placeCode(int spot) {
        return spot == NONE ? NONE : 100 * levelOf(spot) + columnOf(spot);
    }

    private static int leftShare(int load) {
        return load - load / 2;
    }

    private static int rightShare(int load) {
        return load / 2;
    }

    private static int strengthFor(int stiffness, int angle) {
        return stiffness * (100 - 2 * Math.abs(angle - BEST_ANGLE)) / 25;
    }

    private static char causeLetter(int cause) {
        return cause >= 0 && cause < CAUSE_LETTERS.length() ? CAUSE_LETTERS.charAt(cause) : ' ';
    }

    /** What a text tells once and for all: the settings, and the cards as they were new. */
    private static final class Rules {
        final int[] settings = new int[SETTINGS];
        final int[] names = new int[MOST_CARDS];
        final int[] stiffness = new int[MOST_CARDS];
        final int[] weights = new int[MOST_CARDS];
        int cards = 0;

        void copyFrom(Rules other) {
            System.arraycopy(other.settings, 0, settings, 0, SETTINGS);
            System.arraycopy(other.names, 0, names, 0, MOST_CARDS);
            System.arraycopy(other.stiffness, 0, stiffness, 0, MOST_CARDS);
            System.arraycopy(other.weights, 0, weights, 0, MOST_CARDS);
            cards = other.cards;
        }

        void clear() {
            Arrays.fill(settings, 0);
            cards = 0;
        }

        int columnsAt(int level) {
            if (level < 0 || level >= settings[LEVELS] || level >= settings[WIDE]) {
                return 0;
            }
            return settings[WIDE] - level;
        }

        int spotOf(int level, int column) {
            if (column < 0 || column >= columnsAt(level)) {
                return NONE;
            }
            return level * MOST_COLUMNS + column;
        }

        int places() {
            int sum = 0;
            for (int level = 0; level < MOST_LEVELS; level++) {
                sum += columnsAt(level);
            }
            return sum;
        }

        int cardNamed(int name) {
            for (int card = 0; card < cards; card++) {
                if (names[card] == name) {
                    return card;
                }
            }
            return NONE;
        }
    }

    /** The cards as they are now, and the heap; what is built of them stands in the grid. */
    private static final class Cards {
        final Rules rules;
        final int[] stiffness = new int[MOST_CARDS];
        final int[] bends = new int[MOST_CARDS];
        final int[] spots = new int[MOST_CARDS];
        final int[] heap = new int[MOST_CARDS];
        int heaped = 0;

        Cards(Rules rules) {
            this.rules = rules;
        }

        void copyFrom(Cards other) {
            System.arraycopy(other.stiffness, 0, stiffness, 0, MOST_CARDS);
            System.arraycopy(other.bends, 0, bends, 0, MOST_CARDS);
            System.arraycopy(other.spots, 0, spots, 0, MOST_CARDS);
            System.arraycopy(other.heap, 0, heap, 0, MOST_CARDS);
            heaped = other.heaped;
        }

        void clear() {
            Arrays.fill(bends, 0);
            Arrays.fill(spots, IN_THE_HAND);
            heaped = 0;
        }

        boolean isHeld(int card) {
            return spots[card] == IN_THE_HAND;
        }

        boolean isBuiltIn(int card) {
            return spots[card] >= 0;
        }

        int handSize() {
            int size = 0;
            for (int card = 0; card < rules.cards; card++) {
                size += isHeld(card) ? 1 : 0;
            }
            return size;
        }

        int handCard(int index) {
            int before = 0;
            for (int card = 0; card < rules.cards; card++) {
                if (isHeld(card)) {
                    if (before == index) {
                        return card;
                    }
                    before++;
                }
            }
            return NONE;
        }

        void bend(int card) {
            if (stiffness[card] > 1) {
                stiffness[card]--;
                bends[card]++;
            }
        }

        void putOnHeap(int card) {
            if (heaped < MOST_CARDS) {
                heap[heaped] = card;
                heaped++;
                spots[card] = ON_THE_HEAP;
            }
        }

        void takeFromHeap(int card) {
            int left = 0;
            for (int index = 0; index < heaped; index++) {
                if (heap[index] != card) {
                    heap[left] = heap[index];
                    left++;
                }
            }
            heaped = left;
            spots[card] = IN_THE_HAND;
        }
    }

    /** The pairs and the flat cards, by spots; spots that are no places stay empty. */
    private static final class Grid {
        final int[] first = new int[SPOTS];
        final int[] second = new int[SPOTS];
        final int[] angle = new int[SPOTS];
        final int[] wobble = new int[SPOTS];
        final int[] flat = new int[SPOTS];

        void copyFrom(Grid other) {
            System.arraycopy(other.first, 0, first, 0, SPOTS);
            System.arraycopy(other.second, 0, second, 0, SPOTS);
            System.arraycopy(other.angle, 0, angle, 0, SPOTS);
            System.arraycopy(other.wobble, 0, wobble, 0, SPOTS);
            System.arraycopy(other.flat, 0, flat, 0, SPOTS);
        }

        void clear() {
            Arrays.fill(first, NONE);
            Arrays.fill(flat, NONE);
        }

        boolean pairAt(int spot) {
            return spot >= 0 && spot < SPOTS && first[spot] != NONE;
        }

        boolean flatAt(int spot) {
            return spot >= 0 && spot < SPOTS && flat[spot] != NONE;
        }

        int pairs() {
            int sum = 0;
            for (int spot = 0; spot < SPOTS; spot++) {
                sum += pairAt(spot) ? 1 : 0;
            }
            return sum;
        }

        int flats() {
            int sum = 0;
            for (int spot = 0; spot < SPOTS; spot++) {
                sum += flatAt(spot) ? 1 : 0;
            }
            return sum;
        }

        int shakiestSpot() {
            int best = NONE;
            for (int spot = 0; spot < SPOTS; spot++) {
                if (pairAt(spot) && (best == NONE || wobble[spot] > wobble[best])) {
                    best = spot;
                }
            }
            return best;
        }

        int firstAbove(int limit) {
            for (int spot = 0; spot < SPOTS; spot++) {
                if (pairAt(spot) && wobble[spot] > limit) {
                    return spot;
                }
            }
            return NONE;
        }

        /** Takes from the wobble of each pair, and answers how many still wobble. */
        int calmDown(int calm) {
            int wobbling = 0;
            for (int spot = 0; spot < SPOTS; spot++) {
                if (pairAt(spot)) {
                    wobble[spot] = Math.max(0, wobble[spot] - calm);
                    wobbling += wobble[spot] > 0 ? 1 : 0;
                }
            }
            return wobbling;
        }
    }

    /** The log of falls: all are counted, the latest ones are kept. */
    private static final class FallLog {
        final int[] parts = new int[FALLS_TOLD * FALL_PARTS];
        final int[] causes = new int[CAUSES];
        int noted = 0;

        void copyFrom(FallLog other) {
            System.arraycopy(other.parts, 0, parts, 0, FALLS_TOLD * FALL_PARTS);
            System.arraycopy(other.causes, 0, causes, 0, CAUSES);
            noted = other.noted;
        }

        void clear() {
            Arrays.fill(causes, 0);
            noted = 0;
        }

        void note(int time, int level, int column, int kind, int cause) {
            int start = noted % FALLS_TOLD * FALL_PARTS;
            parts[start] = time;
            parts[start + 1] = level;
            parts[start + 2] = column;
            parts[start + 3] = kind;
            parts[start + 4] = cause;
            causes[cause]++;
            noted++;
        }

        int told() {
            return Math.min(noted, FALLS_TOLD);
        }

        int notedFor(int cause) {
            return cause >= 0 && cause < CAUSES ? causes[cause] : 0;
        }

        int part(int index, int what) {
            if (index < 0 || index >= told() || what < 0 || what >= FALL_PARTS) {
                return NONE;
            }
            return parts[(noted - 1 - index) % FALLS_TOLD * FALL_PARTS + what];
        }
    }

    /** The loads of the castle that was weighed last. */
    private static final class Scale {
        final int[] pairLoads = new int[SPOTS];
        final int[] flatLoads = new int[SPOTS];

        void weigh(Castle castle) {
            for (int level = MOST_LEVELS - 1; level >= 0; level--) {
                for (int column = 0; column < castle.rules.columnsAt(level); column++) {
                    weighPlace(castle, level, column);
                }
            }
        }

        private void weighPlace(Castle castle, int level, int column) {
            int spot = castle.rules.spotOf(level, column);
            int upperLeft = castle.rules.spotOf(level + 1, column - 1);
            int upperRight = castle.rules.spotOf(level + 1, column);
            int pairLoad = 0;
            if (castle.grid.flatAt(upperLeft)) {
                pairLoad += rightShare(flatLoads[upperLeft]);
            }
            if (castle.grid.flatAt(upperRight)) {
                pairLoad += leftShare(flatLoads[upperRight]);
            }
            pairLoads[spot] = pairLoad;
            flatLoads[spot] = castle.weightOfFlat(spot) + castle.weightOfPair(spot) + pairLoad;
        }
    }

    /** All of a castle that changes. */
    private static final class Castle {
        final Rules rules;
        final Scale scale;
        final Cards cards;
        final Grid grid = new Grid();
        final FallLog log = new FallLog();
        int time = 0;
        int tremors = 0;

        Castle(Rules rules, Scale scale) {
            this.rules = rules;
            this.scale = scale;
            this.cards = new Cards(rules);
        }

        void copyFrom(Castle other) {
            cards.copyFrom(other.cards);
            grid.copyFrom(other.grid);
            log.copyFrom(other.log);
            time = other.time;
            tremors = other.tremors;
        }

        void clear() {
            cards.clear();
            grid.clear();
            log.clear();
            time = 0;
            tremors = 0;
        }

        boolean hasPair(int level, int column) {
            return grid.pairAt(rules.spotOf(level, column));
        }

        boolean hasFlat(int level, int column) {
            return grid.flatAt(rules.spotOf(level, column));
        }

        boolean pairFits(int level, int column) {
            return !hasPair(level, column) && (level == 0 || hasFlat(level, column));
        }

        boolean flatFits(int level, int column) {
            return rules.spotOf(level, column) != NONE && !hasFlat(level, column)
                && hasPair(level - 1, column) && hasPair(level - 1, column + 1);
        }

        boolean isBare(int level, int column) {
            return !hasFlat(level + 1, column - 1) && !hasFlat(level + 1, column);
        }

        int whereIs(int card) {
            int spot = cards.spots[card];
            if (spot == IN_THE_HAND) {
                return 0;
            }
            if (spot == ON_THE_HEAP) {
                return 1;
            }
            return isFlat(card) ? 3 : 2;
        }

        boolean isFlat(int card) {
            int spot = cards.spots[card];
            return grid.flatAt(spot) && grid.flat[spot] == card;
        }

        int stiffnessAt(int spot) {
            return grid.pairAt(spot) ? cards.stiffness[grid.first[spot]] + cards.stiffness[grid.second[spot]] : 0;
        }

        int strengthAt(int spot) {
            return grid.pairAt(spot) ? strengthFor(stiffnessAt(spot), grid.angle[spot]) : 0;
        }

        /** The reserve of a pair; the castle must have been weighed last. */
        int reserveAt(int spot) {
            return strengthAt(spot) - scale.pairLoads[spot];
        }

        int weightOfPair(int spot) {
            return grid.pairAt(spot) ? rules.weights[grid.first[spot]] + rules.weights[grid.second[spot]] : 0;
        }

        int weightOfFlat(int spot) {
            return grid.flatAt(spot) ? rules.weights[grid.flat[spot]] : 0;
        }

        int builtWeight() {
            int sum = 0;
            for (int spot = 0; spot < SPOTS; spot++) {
                sum += weightOfPair(spot) + weightOfFlat(spot);
            }
            return sum;
        }

        int weakestSpot() {
            scale.weigh(this);
            int best = NONE;
            for (int spot = 0; spot < SPOTS; spot++) {
                if (grid.pairAt(spot) && (best == NONE || reserveAt(spot) < reserveAt(best))) {
                    best = spot;
                }
            }
            return best;
        }

        int sumOfReserves() {
            scale.weigh(this);
            int sum = 0;
            for (int spot = 0; spot < SPOTS; spot++) {
                sum += grid.pairAt(spot) ? reserveAt(spot) : 0;
            }
            return sum;
        }

        void putPair(int spot, int card, int other, int angle) {
            grid.first[spot] = card;
            grid.second[spot] = other;
            grid.angle[spot] = angle;
            grid.wobble[spot] = 0;
            cards.spots[card] = spot;
            cards.spots[other] = spot;
        }

        void putFlat(int spot, int card) {
            grid.flat[spot] = card;
            cards.spots[card] = spot;
        }

        void pairToHand(int spot) {
            if (!grid.pairAt(spot)) {
                return;
            }
            cards.spots[grid.first[spot]] = IN_THE_HAND;
            cards.spots[grid.second[spot]] = IN_THE_HAND;
            grid.first[spot] = NONE;
        }

        void flatToHand(int spot) {
            if (!grid.flatAt(spot)) {
                return;
            }
            cards.spots[grid.flat[spot]] = IN_THE_HAND;
            grid.flat[spot] = NONE;
        }

        /** Lets pairs fall by their loads until none must; answers how many pairs and flat cards fell. */
        int settle() {
            int before = log.noted;
            for (int round = 0; round < SPOTS; round++) {
                int spot = firstOverloaded();
                if (spot == NONE) {
                    break;
                }
                dropPair(levelOf(spot), columnOf(spot), BY_LOAD, NONE);
            }
            return log.noted - before;
        }

        private int firstOverloaded() {
            scale.weigh(this);
            for (int spot = 0; spot < SPOTS; spot++) {
                if (grid.pairAt(spot) && reserveAt(spot) < 0) {
                    return spot;
                }
            }
            return NONE;
        }

        /** Makes a tremor; answers how many pairs and flat cards fell. */
        int quake(int force, int column) {
            int before = log.noted;
            tremors++;
            for (int spot = 0; spot < SPOTS; spot++) {
                if (grid.pairAt(spot)) {
                    grid.wobble[spot] += wobbleBy(force, column, spot);
                }
            }
            for (int round = 0; round < SPOTS; round++) {
                int spot = grid.firstAbove(rules.settings[LIMIT]);
                if (spot == NONE) {
                    break;
                }
                dropPair(levelOf(spot), columnOf(spot), BY_WOBBLE, NONE);
            }
            settle();
            return log.noted - before;
        }

        private int wobbleBy(int force, int column, int spot) {
            int level = levelOf(spot);
            int distance = Math.abs(2 * columnOf(spot) + level - 2 * column);
            int shake = (force - rules.settings[DAMP] * distance) * (level + 1);
            int stiffness = stiffnessAt(spot);
            return shake > 0 && stiffness > 0 ? shake / stiffness : 0;
        }

        /** Tells whether a pair would wobble too much by some such tremors; as the castle is settled, only then something falls. */
        boolean shakenDownBy(int force, int column, int times) {
            for (int spot = 0; spot < SPOTS; spot++) {
                if (grid.pairAt(spot)
                    && grid.wobble[spot] + times * wobbleBy(force, column, spot) > rules.settings[LIMIT]) {
                    return true;
                }
            }
            return false;
        }

        /** Pulls a card out, if it is built in; answers how many pairs and flat cards fell. */
        int pullOut(int card) {
            int before = log.noted;
            int spot = cards.spots[card];
            if (spot < 0) {
                return 0;
            }
            if (isFlat(card)) {
                dropFlat(levelOf(spot), columnOf(spot), BY_PULLING, card);
            } else {
                dropPair(levelOf(spot), columnOf(spot), BY_PULLING, card);
            }
            settle();
            return log.noted - before;
        }

        /** Lets a pair fall, without settling; answers how many pairs and flat cards fell. */
        int letPairFall(int level, int column) {
            int before = log.noted;
            dropPair(level, column, BY_LOAD, NONE);
            return log.noted - before;
        }

        // The two falls call each other with a level that only grows, and
        // refuse a level that is not there: so they go at most 16 deep.

        private void dropPair(int level, int column, int cause, int pulled) {
            int spot = rules.spotOf(level, column);
            if (!grid.pairAt(spot)) {
                return;
            }
            int first = grid.first[spot];
            int second = grid.second[spot];
            grid.first[spot] = NONE;
            log.note(time, level, column, A_PAIR, cause);
            dropCard(first, level, pulled);
            dropCard(second, level, pulled);
            dropFlat(level + 1, column - 1, FROM_BELOW, NONE);
            dropFlat(level + 1, column, FROM_BELOW, NONE);
        }

        private void dropFlat(int level, int column, int cause, int pulled) {
            int spot = rules.spotOf(level, column);
            if (!grid.flatAt(spot)) {
                return;
            }
            int card = grid.flat[spot];
            grid.flat[spot] = NONE;
            log.note(time, level, column, A_FLAT, cause);
            dropCard(card, level, pulled);
            dropPair(level, column, FROM_BELOW, NONE);
        }

        private void dropCard(int card, int level, int pulled) {
            if (card == pulled) {
                cards.spots[card] = IN_THE_HAND;
                return;
            }
            cards.putOnHeap(card);
            if (level >= rules.settings[BEND]) {
                cards.bend(card);
            }
        }
    }

    /** The input buffer. */
    private static final class Input {
        final byte[] bytes = new byte[MOST_BYTES];
        int length = 0;

        void addFour(int four) {
            if (length + BYTES_AN_INT > MOST_BYTES) {
                return;
            }
            bytes[length] = (byte) (four >> 24);
            bytes[length + 1] = (byte) (four >> 16);
            bytes[length + 2] = (byte) (four >> 8);
            bytes[length + 3] = (byte) four;
            length += BYTES_AN_INT;
        }

        int byteAt(int index) {
            return index >= 0 && index < length ? bytes[index] : 0;
        }

        /** The name that some bytes are, as a number; NONE if they are none. */
        int nameAt(int start, int n) {
            if (n < 1 || n > MOST_LETTERS || start < 0 || start > length - n) {
                return NONE;
            }
            int name = 0;
            for (int index = start; index < start + n; index++) {
                int letter = bytes[index];
                if (letter < 'a' || letter > 'z') {
                    return NONE;
                }
                name = name << LETTER_BITS | letter - BEFORE_A;
            }
            return name;
        }
    }

    /** The tokens of a text, one after the other. */
    private static final class Tokens {
        final Input input;
        int end = 0;
        int next = 0;
        int start = 0;
        int kind = THE_END;
        int value = 0;

        Tokens(Input input) {
            this.input = input;
        }

        void begin(int n) {
            end = Math.min(n, input.length);
            next = 0;
        }

        void step() {
            while (next < end && input.byteAt(next) == ' ') {
                next++;
            }
            start = next;
            if (start >= end) {
                kind = THE_END;
                return;
            }
            int sign = input.byteAt(start);
            if (sign >= 'a' && sign <= 'z') {
                next = endOfRun('a', 'z');
                kind = next - start > MOST_LETTERS ? NO_TOKEN : A_WORD;
                value = input.nameAt(start, next - start);
            } else if (sign >= '0' && sign <= '9') {
                next = endOfRun('0', '9');
                kind = next - start > MOST_DIGITS ? NO_TOKEN : A_NUMBER;
                value = numberAt(Math.min(next, start + MOST_DIGITS));
            } else {
                next = start + 1;
                kind = sign == ';' ? A_SEMICOLON : NO_TOKEN;
            }
        }

        private int endOfRun(char least, char most) {
            int index = start;
            while (index < end && input.bytes[index] >= least && input.bytes[index] <= most) {
                index++;
            }
            return index;
        }

        private int numberAt(int behind) {
            int number = 0;
            for (int index = start; index < behind; index++) {
                number = number * 10 + input.bytes[index] - '0';
            }
            return number;
        }

        boolean isWord(String word) {
            if (kind != A_WORD || next - start != word.length()) {
                return false;
            }
            for (int index = 0; index < word.length(); index++) {
                if (input.byteAt(start + index) != word.charAt(index)) {
                    return false;
                }
            }
            return true;
        }
    }

    /** Reads a text into rules and a castle of its own, so that an error leaves the other castle as it is. */
    private static final class Parser {
        final Rules rules = new Rules();
        final Castle castle;
        final Tokens tokens;
        int error = 0;
        int errorAt = NONE;
        private int level = 0;
        private int column = 0;

        Parser(Input input, Scale scale) {
            castle = new Castle(rules, scale);
            tokens = new Tokens(input);
        }

        boolean readText(int n) {
            error = 0;
            errorAt = NONE;
            rules.clear();
            castle.clear();
            tokens.begin(n);
            if (!readTable()) {
                return false;
            }
            for (int line = 0; line < MOST_BYTES; line++) {
                tokens.step();
                if (tokens.kind == THE_END) {
                    return true;
                }
                if (tokens.kind != A_SEMICOLON) {
                    return fail(NOT_ALLOWED);
                }
                if (!readLine()) {
                    return false;
                }
            }
            return fail(NOT_ALLOWED);
        }

        private boolean fail(int code) {
            error = code;
            errorAt = tokens.start;
            return false;
        }

        private boolean readTable() {
            tokens.step();
            if (!tokens.isWord("table")) {
                return fail(NOT_ALLOWED);
            }
            for (int what = 0; what < SETTINGS; what++) {
                if (!readNumber(LEAST_SETTINGS[what], MOST_SETTINGS[what])) {
                    return false;
                }
                rules.settings[what] = tokens.value;
            }
            return true;
        }

        private boolean readLine() {
            tokens.step();
            if (tokens.isWord("card")) {
                return rules.cards < MOST_CARDS ? readCardLine() : fail(TOO_MANY_CARDS);
            }
            if (tokens.isWord("lean")) {
                return readLeanLine();
            }
            if (tokens.isWord("lay")) {
                return readLayLine();
            }
            return fail(NOT_ALLOWED);
        }

        private boolean readCardLine() {
            int card = rules.cards;
            tokens.step();
            if (tokens.kind != A_WORD) {
                return fail(NOT_ALLOWED);
            }
            if (rules.cardNamed(tokens.value) != NONE) {
                return fail(WRONG_NAME);
            }
            rules.names[card] = tokens.value;
            if (!readNumber(1, MOST_OF_A_CARD)) {
                return false;
            }
            rules.stiffness[card] = tokens.value;
            castle.cards.stiffness[card] = tokens.value;
            if (!readNumber(1, MOST_OF_A_CARD)) {
                return false;
            }
            rules.weights[card] = tokens.value;
            rules.cards++;
            return true;
        }

        private boolean readLeanLine() {
            if (!readPlace(0)) {
                return false;
            }
            if (!castle.pairFits(level, column)) {
                return fail(NOT_BUILT);
            }
            int first = readHeldCard(NONE);
            if (first == NONE) {
                return false;
            }
            int second = readHeldCard(first);
            if (second == NONE || !readNumber(LEAST_ANGLE, MOST_ANGLE)) {
                return false;
            }
            castle.putPair(rules.spotOf(level, column), first, second, tokens.value);
            return true;
        }

        private boolean readLayLine() {
            if (!readPlace(1)) {
                return false;
            }
            if (!castle.flatFits(level, column)) {
                return fail(NOT_BUILT);
            }
            int card = readHeldCard(NONE);
            if (card == NONE) {
                return false;
            }
            castle.putFlat(rules.spotOf(level, column), card);
            return true;
        }

        private boolean readPlace(int leastLevel) {
            if (!readNumber(leastLevel, rules.settings[LEVELS] - 1)) {
                return false;
            }
            level = tokens.value;
            if (!readNumber(0, rules.columnsAt(level) - 1)) {
                return false;
            }
            column = tokens.value;
            return true;
        }

        private boolean readNumber(int least, int most) {
            tokens.step();
            if (tokens.kind != A_NUMBER) {
                return fail(NOT_ALLOWED);
            }
            if (tokens.value < least || tokens.value > most) {
                return fail(OUT_OF_BOUNDS);
            }
            return true;
        }

        /** Reads a card that is in the hand and not the one that is used already; NONE behind an error. */
        private int readHeldCard(int used) {
            tokens.step();
            if (tokens.kind != A_WORD) {
                fail(NOT_ALLOWED);
                return NONE;
            }
            int card = rules.cardNamed(tokens.value);
            if (card == NONE || card == used || !castle.cards.isHeld(card)) {
                fail(WRONG_NAME);
                return NONE;
            }
            return card;
        }
    }

    /** The castles before the latest changes; they stand in a ring. */
    private static final class History {
        final Castle[] castles = new Castle[CHANGES_KEPT];
        int kept = 0;
        private int next = 0;

        History(Rules rules, Scale scale) {
            for (int index = 0; index < CHANGES_KEPT; index++) {
                castles[index] = new Castle(rules, scale);
            }
        }

        void keep(Castle castle) {
            castles[next].copyFrom(castle);
            next = (next + 1) % CHANGES_KEPT;
            kept = Math.min(kept + 1, CHANGES_KEPT);
        }

        void bringBack(Castle castle) {
            next = (next + CHANGES_KEPT - 1) % CHANGES_KEPT;
            kept = Math.max(kept - 1, 0);
            castle.copyFrom(castles[next]);
        }
    }

    /** The text that was written last. */
    private static final class Text {
        final byte[] signs = new byte[TEXT_BYTES];
        int length = 0;

        void put(int sign) {
            if (length < TEXT_BYTES) {
                signs[length] = (byte) sign;
                length++;
            }
        }

        /** Puts a number of at most three digits; loads, the greatest ones, have no more. */
        void putNumber(int number) {
            for (int unit = 100; unit > 0; unit /= 10) {
                if (number >= unit || unit == 1) {
                    put('0' + number / unit % 10);
                }
            }
        }

        void putName(int name) {
            for (int shift = (MOST_LETTERS - 1) * LETTER_BITS; shift >= 0; shift -= LETTER_BITS) {
                int letter = name >> shift & LETTER_MASK;
                if (letter > 0) {
                    put(BEFORE_A + letter);
                }
            }
        }
    }
}
