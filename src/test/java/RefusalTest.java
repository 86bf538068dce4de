/**
 * Each call that is refused: which exception (the one that is listed first at
 * the method, if several apply), and that nothing has changed behind it.
 *
 * The call is made on one of two objects with the same calls behind them; then
 * both must tell the same. No object gets more than 512 calls.
 */
public final class RefusalTest {
    private static final Checks c = new Checks();

    private static final int MIN = Integer.MIN_VALUE;
    private static final int MAX = Integer.MAX_VALUE;
    private static final Class<?> STATE = IllegalStateException.class;
    private static final Class<?> INDEX = IndexOutOfBoundsException.class;
    private static final Class<?> ARGUMENT = IllegalArgumentException.class;

    private static final String IN_THE_BUFFER = "table 2 1 5 0 0 0;card q 3 4";

    private interface Act {
        void on(CardCastle x);
    }

    private static final String RICH = Told.inputAndText(rich()) + Told.castle(rich()) + Told.rest(rich(), 28);

    /**
     * Pairs at 0.0 to 0.3 and on the flat card at 1.1, a flat card alone at 1.0; 0.4 is free, at 1.2 a card
     * could be laid. In the hand are 6, 12 (bent), 15, 16 and 17, on the heap is 5 (bent), and 13 in a pair is bent.
     */
    private static CardCastle rich() {
        CardCastle x = Checks.loaded(Checks.deck("5 2 20 1 2 1", 18, 5, 2)
            + ";lean 0 0 a b 45;lean 0 1 c d 45;lay 1 0 e;lean 1 0 f g 45;lean 0 2 h i 45;lean 0 3 j k 45");
        x.tick(3);
        x.tremor(30, 0);
        x.save(0);
        x.pull(6);
        x.lay(1, 1, 11);
        x.lean(1, 1, 12, 13, 45);
        x.pull(11);
        x.pickUp(12);
        x.pickUp(13);
        x.lay(1, 1, 11);
        x.lean(1, 1, 13, 14, 45);
        x.writePair(0, 1);
        Checks.feed(x, IN_THE_BUFFER);
        return x;
    }

    public static void main(String[] args) {
        theCastleItself();
        input();
        loadOfAWrongText();
        whatThereIs();
        looks();
        whatWouldBe();
        texts();
        building();
        takingAway();
        shaking();
        turningAndSmoothing();
        undoAndSlots();
        theGreatestTime();
        withoutAText();
        wrongTextFirst();
        c.end("RefusalTest");
    }

    private static void refused(String what, Class<?> kind, Act call) {
        CardCastle x = rich();
        c.refuses(what, kind, () -> call.on(x));
        c.same(what + ": nothing has changed", Told.inputAndText(x) + Told.castle(x) + Told.rest(x, 28), RICH);
    }

    /** The same call with arguments just inside must not be refused. */
    private static void accepted(String what, Act call) {
        c.refuses(what, null, () -> call.on(rich()));
    }

    private static void theCastleItself() {
        CardCastle x = rich();
        int[] counts = {18, 5, 1, 5, 2, 3, 3, 0, 0, 1, 2, 1, 9};
        for (int what = 0; what <= 12; what++) {
            c.same("8 count " + what, x.count(what), counts[what]);
        }
        int[] bent = {5, 12, 13};
        for (int card : bent) {
            c.same("10 bent", x.card(card, 0), 4);
        }
        c.same("52 eight changes", x.undoable(), 8);
    }

    // ---- input

    private static void input() {
        int[] wrong = {-1, 41, MIN, MAX};
        for (int n : wrong) {
            refused("3 load of " + n, INDEX, x -> x.load(n));
            refused("7 find of " + n, INDEX, x -> x.find(n));
        }
        CardCastle x = rich();
        for (int calls = 3; calls <= 45; calls++) {
            x.append(0, 0, 0, 0, 0);
        }
        String before = Told.inputAndText(x);
        c.same("2 a full buffer", x.append(-1, -1, -1, -1, -1), -1);
        c.same("2 nothing has changed", Told.inputAndText(x) + Told.castle(x), before + Told.castle(rich()));
        c.same("2 the bytes before", x.load(28), 1);
        accepted("3 load of all", y -> y.load(40));
        accepted("7 find of all", y -> y.find(40));
    }

    /** By IllegalArgumentException load empties the buffer and sets the error; nothing else changes. */
    private static void loadOfAWrongText() {
        String[] texts = {"", "table 2 1 1 0 0 9", "table 2 1 1 0 0 0;card a 1 1;card a", Checks.deck("2 1 1 0 0 0", 41, 1, 1),
            "table 2 2 1 0 0 0;lean 1 0"};
        CardCastle due = rich();
        due.find(0);
        String state = Told.castle(due) + Told.rest(due, 0);
        for (int code = 1; code <= 5; code++) {
            CardCastle x = rich();
            String text = texts[code - 1];
            x.find(0);
            c.noArgument("3 code " + code, () -> Checks.load(x, text));
            c.same("4 code", x.parseError(), code);
            c.holds("5 position", x.errorPosition() >= 0);
            c.same("3 the buffer is empty", x.buffered(), 0);
            c.same("52 what can be undone stays", x.undoable(), 8);
            c.same("40 the text stays", Told.text(x), "c/45\\d 4:40.");
            c.same("3 the previous castle stays", Told.castle(x) + Told.rest(x, 0), state);
        }
    }

    // ---- what there is, looks, what would be, texts

    private static void whatThereIs() {
        refused("8", ARGUMENT, x -> x.count(-1));
        refused("8", ARGUMENT, x -> x.count(13));
        refused("9", ARGUMENT, x -> x.setting(-1));
        refused("9", ARGUMENT, x -> x.setting(6));
        refused("10 no card", INDEX, x -> x.card(-1, 0));
        refused("10 no card", INDEX, x -> x.card(18, 0));
        refused("10 the card comes first", INDEX, x -> x.card(18, 6));
        refused("10 what", ARGUMENT, x -> x.card(17, 6));
        refused("10 what", ARGUMENT, x -> x.card(0, -1));
        refused("11 what", ARGUMENT, x -> x.pair(0, 0, 7));
        refused("11 what", ARGUMENT, x -> x.pair(0, 4, -1));
        refused("11 the place comes first", INDEX, x -> x.pair(0, 5, 7));
        refused("12 what", ARGUMENT, x -> x.flat(1, 0, 4));
        refused("12 what", ARGUMENT, x -> x.flat(0, 0, -1));
        refused("12 the place comes first", INDEX, x -> x.flat(2, 0, 4));
        refused("13 no fall", INDEX, x -> x.fall(3, 0));
        refused("13 no fall", INDEX, x -> x.fall(-1, 0));
        refused("13 the fall comes first", INDEX, x -> x.fall(3, 5));
        refused("13 what", ARGUMENT, x -> x.fall(2, 5));
        refused("13 what", ARGUMENT, x -> x.fall(0, -1));
        refused("14", INDEX, x -> x.inHand(5));
        refused("14", INDEX, x -> x.inHand(-1));
        refused("15", INDEX, x -> x.onHeap(1));
        refused("15", INDEX, x -> x.onHeap(-1));
        int[][] nowhere = {{-1, 0}, {2, 0}, {0, -1}, {0, 5}, {1, 4}, {1, -1}, {MAX, 0}, {MIN, MIN}, {0, MAX}};
        for (int[] p : nowhere) {
            refused("11 no place", INDEX, x -> x.pair(p[0], p[1], 0));
            refused("12 no place", INDEX, x -> x.flat(p[0], p[1], 0));
            refused("16 no place", INDEX, x -> x.canLean(p[0], p[1]));
            refused("17 no place", INDEX, x -> x.canLay(p[0], p[1]));
            refused("21 no place", INDEX, x -> x.supported(p[0], p[1]));
            refused("22 no place", INDEX, x -> x.above(p[0], p[1]));
            refused("36 no place", INDEX, x -> x.bestAngle(p[0], p[1]));
            refused("38 no place", INDEX, x -> x.writePair(p[0], p[1]));
            refused("41 no place", INDEX, x -> x.lean(p[0], p[1], 6, 12, 45));
            refused("41 the place comes first", INDEX, x -> x.lean(p[0], p[1], 6, 6, 99));
            refused("42 no place", INDEX, x -> x.lay(p[0], p[1], 6));
            refused("44 no place", INDEX, x -> x.takeDown(p[0], p[1]));
            refused("45 no place", INDEX, x -> x.lift(p[0], p[1]));
            refused("49 no place", INDEX, x -> x.turn(p[0], p[1], 45));
            refused("49 the place comes first", INDEX, x -> x.turn(p[0], p[1], 99));
        }
    }

    private static void looks() {
        refused("23", INDEX, x -> x.onTable(-1));
        refused("23", INDEX, x -> x.onTable(5));
        refused("27 no first card", INDEX, x -> x.strengthOf(18, 0, 45));
        refused("27 no second card", INDEX, x -> x.strengthOf(0, 18, 45));
        refused("27 no first card", INDEX, x -> x.strengthOf(-1, 0, 45));
        refused("27 no second card", INDEX, x -> x.strengthOf(0, -1, 45));
        refused("27 the cards come first", INDEX, x -> x.strengthOf(18, 18, 19));
        refused("27 both are the same", ARGUMENT, x -> x.strengthOf(17, 17, 45));
        refused("27 the angle", ARGUMENT, x -> x.strengthOf(0, 1, 19));
        refused("27 the angle", ARGUMENT, x -> x.strengthOf(0, 1, 71));
        accepted("27 the angle", x -> x.strengthOf(0, 17, 20));
        accepted("27 the angle", x -> x.strengthOf(17, 0, 70));
    }

    private static void whatWouldBe() {
        refused("29 force", ARGUMENT, x -> x.fallsBy(0, 0));
        refused("29 force", ARGUMENT, x -> x.fallsBy(100, 0));
        refused("29 column", ARGUMENT, x -> x.fallsBy(99, 5));
        refused("29 column", ARGUMENT, x -> x.fallsBy(99, -1));
        refused("30 column", ARGUMENT, x -> x.leastForce(5));
        refused("30 column", ARGUMENT, x -> x.leastForce(-1));
        refused("31 force", ARGUMENT, x -> x.worstColumn(0));
        refused("31 force", ARGUMENT, x -> x.worstColumn(100));
        refused("33 force", ARGUMENT, x -> x.tremorsTo(0, 0));
        refused("33 force", ARGUMENT, x -> x.tremorsTo(100, 0));
        refused("33 column", ARGUMENT, x -> x.tremorsTo(99, 5));
        refused("33 column", ARGUMENT, x -> x.tremorsTo(99, -1));
        refused("34 no card", INDEX, x -> x.fallsIfPulled(18));
        refused("34 no card", INDEX, x -> x.fallsIfPulled(-1));
        refused("35 no card", INDEX, x -> x.safest(18));
        refused("35 no card", INDEX, x -> x.safest(-1));
        nothingIsChanged();
    }

    /** What would be, and what is: these calls change nothing, either. */
    private static void nothingIsChanged() {
        Act[] calls = {
            x -> x.fallsBy(99, 0), x -> x.fallsBy(1, 4), x -> x.leastForce(0), x -> x.leastForce(4), x -> x.worstColumn(99),
            x -> x.worstColumn(1), x -> x.calmIn(), x -> x.tremorsTo(99, 0), x -> x.tremorsTo(1, 4), x -> x.fallsIfPulled(0),
            x -> x.fallsIfPulled(4), x -> x.fallsIfPulled(5), x -> x.fallsIfPulled(17), x -> x.safest(17), x -> x.safest(0),
            x -> x.safest(5), x -> x.bestAngle(0, 0), x -> x.bestAngle(0, 4), x -> x.supported(0, 1), x -> x.above(0, 1),
            x -> x.onTable(0), x -> x.meanReserve(), x -> x.builtShare(), x -> x.weakest(), x -> x.shakiest(), x -> x.top(),
            x -> x.weight(), x -> x.stiffest(), x -> x.canLean(0, 4), x -> x.canLay(1, 2), x -> x.strengthOf(0, 5, 20)
        };
        for (int call = 0; call < calls.length; call++) {
            CardCastle x = rich();
            calls[call].on(x);
            c.same("nothing is changed by the look " + call, Told.inputAndText(x) + Told.castle(x) + Told.rest(x, 28), RICH);
        }
    }

    private static void texts() {
        refused("37 no level", INDEX, x -> x.writeLevel(-1));
        refused("37 no level", INDEX, x -> x.writeLevel(2));
        refused("40 no byte", INDEX, x -> x.textByte(-1));
        refused("40 no byte", INDEX, x -> x.textByte(11));
        accepted("40 the last byte", x -> x.textByte(10));
    }

    // ---- changes

    private static void building() {
        refused("41 no first card", INDEX, x -> x.lean(0, 4, 18, 6, 45));
        refused("41 no second card", INDEX, x -> x.lean(0, 4, 6, 18, 45));
        refused("41 no first card", INDEX, x -> x.lean(0, 4, -1, 6, 45));
        refused("41 no second card", INDEX, x -> x.lean(0, 4, 6, -1, 45));
        refused("41 the cards come before the place that is built", INDEX, x -> x.lean(0, 0, 6, 18, 99));
        refused("41 a pair is there", ARGUMENT, x -> x.lean(0, 0, 6, 12, 45));
        refused("41 a pair is on the flat card", ARGUMENT, x -> x.lean(1, 1, 6, 12, 45));
        refused("41 no flat card is there", ARGUMENT, x -> x.lean(1, 2, 6, 12, 45));
        refused("41 both cards are the same", ARGUMENT, x -> x.lean(0, 4, 6, 6, 45));
        refused("41 the first card is in a pair", ARGUMENT, x -> x.lean(0, 4, 0, 6, 45));
        refused("41 the second card is in a pair", ARGUMENT, x -> x.lean(0, 4, 6, 1, 45));
        refused("41 the first card is flat", ARGUMENT, x -> x.lean(0, 4, 4, 6, 45));
        refused("41 the second card is flat", ARGUMENT, x -> x.lean(0, 4, 6, 11, 45));
        refused("41 the first card is on the heap", ARGUMENT, x -> x.lean(0, 4, 5, 6, 45));
        refused("41 the second card is on the heap", ARGUMENT, x -> x.lean(0, 4, 6, 5, 45));
        refused("41 the angle", ARGUMENT, x -> x.lean(0, 4, 6, 12, 19));
        refused("41 the angle", ARGUMENT, x -> x.lean(0, 4, 6, 12, 71));
        accepted("41 on the table", x -> x.lean(0, 4, 6, 12, 20));
        accepted("41 on the flat card", x -> x.lean(1, 0, 17, 6, 70));
        refused("42 no card", INDEX, x -> x.lay(1, 2, 18));
        refused("42 no card", INDEX, x -> x.lay(1, 2, -1));
        refused("42 the card comes before the place", INDEX, x -> x.lay(1, 0, 18));
        refused("42 level 0", ARGUMENT, x -> x.lay(0, 4, 6));
        refused("42 a flat card is there", ARGUMENT, x -> x.lay(1, 0, 6));
        refused("42 a flat card with a pair is there", ARGUMENT, x -> x.lay(1, 1, 6));
        refused("42 the right pair is missing", ARGUMENT, x -> x.lay(1, 3, 6));
        refused("42 the card is in a pair", ARGUMENT, x -> x.lay(1, 2, 0));
        refused("42 the card is flat", ARGUMENT, x -> x.lay(1, 2, 4));
        refused("42 the card is on the heap", ARGUMENT, x -> x.lay(1, 2, 5));
        accepted("42 it is in the hand", x -> x.lay(1, 2, 17));
    }

    private static void takingAway() {
        int[] none = {-1, 18, MIN, MAX};
        for (int card : none) {
            refused("43 no card", INDEX, x -> x.pull(card));
            refused("46 no card", INDEX, x -> x.pickUp(card));
            refused("50 no card", INDEX, x -> x.smooth(card));
        }
        refused("43 in the hand", ARGUMENT, x -> x.pull(6));
        refused("43 on the heap", ARGUMENT, x -> x.pull(5));
        accepted("43 the last card that is built in", x -> x.pull(14));
        refused("44 no pair", ARGUMENT, x -> x.takeDown(0, 4));
        refused("44 a flat card alone", ARGUMENT, x -> x.takeDown(1, 0));
        refused("44 something lies at its upper right", ARGUMENT, x -> x.takeDown(0, 0));
        refused("44 something lies at its upper left", ARGUMENT, x -> x.takeDown(0, 2));
        refused("44 something lies at both sides", ARGUMENT, x -> x.takeDown(0, 1));
        accepted("44 nothing lies on it", x -> x.takeDown(0, 3));
        accepted("44 nothing lies on it", x -> x.takeDown(1, 1));
        refused("45 a pair stands on it", ARGUMENT, x -> x.lift(1, 1));
        refused("45 no flat card", ARGUMENT, x -> x.lift(1, 2));
        refused("45 a pair on the table", ARGUMENT, x -> x.lift(0, 3));
        refused("45 nothing on the table", ARGUMENT, x -> x.lift(0, 4));
        accepted("45 no pair stands on it", x -> x.lift(1, 0));
        refused("46 in the hand", ARGUMENT, x -> x.pickUp(6));
        refused("46 in a pair", ARGUMENT, x -> x.pickUp(0));
        refused("46 flat", ARGUMENT, x -> x.pickUp(4));
        accepted("46 on the heap", x -> x.pickUp(5));
    }

    private static void shaking() {
        int[] forces = {0, 100, -1, MIN, MAX};
        for (int force : forces) {
            refused("47 force " + force, ARGUMENT, x -> x.tremor(force, 0));
        }
        int[] columns = {-1, 5, MIN, MAX};
        for (int column : columns) {
            refused("47 column " + column, ARGUMENT, x -> x.tremor(50, column));
        }
        accepted("47 the least force", x -> x.tremor(1, 0));
        accepted("47 the greatest force", x -> x.tremor(99, 4));
        int[] ticks = {0, 101, -1, MIN, MAX};
        for (int number : ticks) {
            refused("48 ticks " + number, ARGUMENT, x -> x.tick(number));
        }
        accepted("48 the least number", x -> x.tick(1));
        accepted("48 the greatest number", x -> x.tick(100));
    }

    private static void turningAndSmoothing() {
        refused("49 no pair", ARGUMENT, x -> x.turn(0, 4, 45));
        refused("49 a flat card alone", ARGUMENT, x -> x.turn(1, 0, 45));
        refused("49 no pair and no angle", ARGUMENT, x -> x.turn(0, 4, 19));
        refused("49 the angle", ARGUMENT, x -> x.turn(0, 0, 19));
        refused("49 the angle", ARGUMENT, x -> x.turn(0, 0, 71));
        accepted("49 the angle", x -> x.turn(0, 0, 20));
        accepted("49 the angle", x -> x.turn(1, 1, 70));
        refused("50 never bent", ARGUMENT, x -> x.smooth(17));
        refused("50 bent on the heap", ARGUMENT, x -> x.smooth(5));
        refused("50 bent in a pair", ARGUMENT, x -> x.smooth(13));
        refused("50 in a pair", ARGUMENT, x -> x.smooth(0));
        refused("50 flat", ARGUMENT, x -> x.smooth(4));
        accepted("50 bent in the hand", x -> x.smooth(12));
        CardCastle x = rich();
        x.smooth(12);
        String before = Told.inputAndText(x) + Told.castle(x);
        c.noArgument("50 once more", () -> x.smooth(12));
        c.same("50 nothing has changed", Told.inputAndText(x) + Told.castle(x), before);
    }

    private static void undoAndSlots() {
        int[] wrong = {-1, 2, MIN, MAX};
        for (int slot : wrong) {
            refused("53 slot " + slot, INDEX, x -> x.save(slot));
            refused("54 slot " + slot, INDEX, x -> x.restore(slot));
        }
        refused("54 nothing is saved there", STATE, x -> x.restore(1));
        CardCastle x = rich();
        for (int left = 7; left >= 0; left--) {
            c.same("51 undo", x.undo(), left);
        }
        String before = Told.inputAndText(x) + Told.castle(x);
        c.noState("51 nothing is left", () -> x.undo());
        c.same("51 nothing has changed", Told.inputAndText(x) + Told.castle(x), before);
        c.same("53 what was saved is there still", x.restore(0), 3);
    }

    /** The time would be greater than 9999. */
    private static void theGreatestTime() {
        CardCastle x = rich();
        x.tick(97);
        for (int round = 1; round < 99; round++) {
            x.tick(100);
        }
        c.same("48 the time", x.count(5), 9900);
        String before = Told.castle(x);
        c.noArgument("48 one too many", () -> x.tick(100));
        c.same("48 nothing has changed", Told.castle(x), before);
        x.tick(99);
        c.noArgument("48 not one more", () -> x.tick(1));
        c.same("48 the greatest time", x.count(5), 9999);
        c.same("52 no change more", x.undo(), 7);
    }

    // ---- without a text

    private static CardCastle without() {
        CardCastle x = new CardCastle();
        Checks.feed(x, IN_THE_BUFFER);
        return x;
    }

    /** IllegalStateException, with right arguments and with wrong ones; the buffer stays. */
    private static void withoutAText() {
        String due = Told.inputAndText(without()) + Told.rest(without(), 28);
        Act[] calls = {
            x -> x.find(1), x -> x.find(-1), x -> x.find(41), x -> x.count(0), x -> x.count(13), x -> x.setting(0), x -> x.setting(6),
            x -> x.card(0, 0), x -> x.card(-1, 6), x -> x.pair(0, 0, 0), x -> x.pair(-1, -1, 7), x -> x.flat(0, 0, 0),
            x -> x.flat(-1, -1, 4), x -> x.fall(0, 0), x -> x.fall(-1, 5), x -> x.inHand(0), x -> x.inHand(-1), x -> x.onHeap(0),
            x -> x.onHeap(-1), x -> x.canLean(0, 0), x -> x.canLean(-1, -1), x -> x.canLay(1, 0), x -> x.canLay(-1, -1),
            x -> x.top(), x -> x.weakest(), x -> x.shakiest(), x -> x.supported(0, 0), x -> x.supported(-1, -1), x -> x.above(0, 0),
            x -> x.above(-1, -1), x -> x.onTable(0), x -> x.onTable(-1), x -> x.weight(), x -> x.meanReserve(), x -> x.builtShare(),
            x -> x.strengthOf(0, 1, 45), x -> x.strengthOf(0, 0, 99), x -> x.strengthOf(-1, -1, 99), x -> x.stiffest(),
            x -> x.fallsBy(1, 0), x -> x.fallsBy(0, -1), x -> x.leastForce(0), x -> x.leastForce(-1), x -> x.worstColumn(1),
            x -> x.worstColumn(0), x -> x.calmIn(), x -> x.tremorsTo(1, 0), x -> x.tremorsTo(0, -1), x -> x.fallsIfPulled(0),
            x -> x.fallsIfPulled(-1), x -> x.safest(0), x -> x.safest(-1), x -> x.bestAngle(0, 0), x -> x.bestAngle(-1, -1),
            x -> x.writeLevel(0), x -> x.writeLevel(-1), x -> x.writePair(0, 0), x -> x.writePair(-1, -1), x -> x.writeFalls(),
            x -> x.lean(0, 0, 0, 1, 45), x -> x.lean(-1, -1, -1, -1, 99), x -> x.lay(1, 0, 0), x -> x.lay(-1, -1, -1), x -> x.pull(0),
            x -> x.pull(-1), x -> x.takeDown(0, 0), x -> x.takeDown(-1, -1), x -> x.lift(1, 0), x -> x.lift(-1, -1), x -> x.pickUp(0),
            x -> x.pickUp(-1), x -> x.tremor(1, 0), x -> x.tremor(0, -1), x -> x.tick(1), x -> x.tick(0), x -> x.turn(0, 0, 45),
            x -> x.turn(-1, -1, 99), x -> x.smooth(0), x -> x.smooth(-1), x -> x.undo(), x -> x.save(0), x -> x.save(2),
            x -> x.restore(0), x -> x.restore(1)
        };
        for (int call = 0; call < calls.length; call++) {
            CardCastle x = without();
            Act act = calls[call];
            c.noState("7 without a text, call " + call, () -> act.on(x));
            c.same("7 nothing has changed behind call " + call, Told.inputAndText(x) + Told.rest(x, 28), due);
        }
        int[] slots = {-1, 2, MIN, MAX};
        for (int slot : slots) {
            CardCastle x = without();
            c.noIndex("54 the slot comes first", () -> x.restore(slot));
            c.same("54 nothing has changed", Told.inputAndText(x) + Told.rest(x, 28), due);
        }
        CardCastle x = without();
        c.same("6 buffered needs no text", x.buffered(), 40);
        c.same("4 parseError needs no text", x.parseError(), 0);
        c.same("5 errorPosition needs no text", x.errorPosition(), -1);
        c.same("52 undoable needs no text", x.undoable(), 0);
        c.noIndex("40 textByte asks for the byte", () -> x.textByte(0));
        c.noIndex("3 load asks for the bytes", () -> x.load(41));
    }

    /** A text with an error is no text that was loaded. */
    private static void wrongTextFirst() {
        CardCastle x = new CardCastle();
        c.noArgument("3 a wrong text", () -> Checks.load(x, "table 2 1 1 0 0 0;"));
        c.noState("7 nothing was loaded", () -> x.top());
        c.noState("7 nothing was loaded", () -> x.save(0));
        c.noState("7 nothing was loaded", () -> x.undo());
        Checks.load(x, "table 2 1 1 0 0 0");
        c.same("7 now it was", x.top(), -1);
        c.noArgument("3 a wrong text again", () -> Checks.load(x, "table"));
        c.same("7 it was all the same", x.setting(0), 2);
    }
}
