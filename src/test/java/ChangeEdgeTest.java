import java.util.ArrayDeque;
import java.util.Deque;

/**
 * The boundary cases of all that changes a castle (promises 41 to 54): building
 * and taking away, time, what can be undone, and the slots. What is refused
 * stands in RefusalTest.
 */
public final class ChangeEdgeTest {
    private static final Checks c = new Checks();

    private interface Act {
        void on(CardCastle x);
    }

    public static void main(String[] args) {
        leansAtTheEdges();
        leansTwoCardsAsTold();
        leansWhatFalls();
        laysAtTheEdges();
        laysWhatFalls();
        pullsEitherCard();
        pulledIsNotBent();
        takesDown();
        lifts();
        picksUpTheLastOne();
        tremorsOnNothing();
        ticksAtTheEdges();
        turnsToTheSameAngle();
        turnsWhatFalls();
        smooths();
        eachChangeIsUndone();
        eachChangeIsRestored();
        eightChanges();
        undoInBetween();
        changesSinceLoadAndRestore();
        theBufferStays();
        oldFallsComeBack();
        slotsByThemselves();
        savedStaysSaved();
        saveIsNoChange();
        undoTouchesNoSlot();
        countsComeBack();
        fiveHundredAndTwelveCalls();
        c.end("ChangeEdgeTest");
    }

    private static CardCastle deck(String settings, int cards, int stiffness, int weight) {
        return Checks.loaded(Checks.deck(settings, cards, stiffness, weight));
    }

    private static String falls(CardCastle x) {
        return Checks.written(x, x.writeFalls());
    }

    // ---- building

    /** The first and the last place of each level, up to the highest one. */
    private static void leansAtTheEdges() {
        CardCastle x = deck("3 3 9 0 0 0", 15, 9, 1);
        c.same("41 the last column", x.lean(0, 2, 0, 1, 45), 0);
        c.same("41 the first column", x.lean(0, 0, 2, 3, 45), 0);
        c.same("41 between", x.lean(0, 1, 4, 5, 45), 0);
        x.lay(1, 1, 6);
        x.lay(1, 0, 7);
        c.same("41 the last column of level 1", x.lean(1, 1, 8, 9, 45), 0);
        c.same("41 the first column of level 1", x.lean(1, 0, 10, 11, 45), 0);
        x.lay(2, 0, 12);
        c.same("41 the highest place, and the last two cards", x.lean(2, 0, 13, 14, 45), 0);
        c.same("8 the hand is empty", x.count(1), 0);
        c.same("8 all places are built", x.count(3) - x.count(12), 0);
        CardCastle y = deck("12 1 9 0 0 0", 2, 9, 1);
        c.same("41 the last of twelve columns", y.lean(0, 11, 0, 1, 45), 0);
        CardCastle z = deck("2 1 9 0 0 0", 40, 9, 1);
        c.same("41 the 40th card", z.lean(0, 1, 39, 38, 45), 0);
        c.same("10 it is there", z.card(39, 4), 1);
    }

    /** Its first card and its second one are as they were told; the wobble is 0 at first. */
    private static void leansTwoCardsAsTold() {
        CardCastle x = deck("2 1 99 0 0 0", 4, 1, 1);
        x.lean(0, 0, 3, 0, 20);
        int[] due = {3, 0, 20, 0, 4, 0, 4};
        for (int what = 0; what <= 6; what++) {
            c.same("11 pair " + what, x.pair(0, 0, what), due[what]);
        }
        x.tremor(50, 0);
        c.same("11 it wobbles", x.pair(0, 0, 3), 25);
        x.takeDown(0, 0);
        x.lean(0, 0, 0, 3, 70);
        int[] then = {0, 3, 70, 0, 4, 0, 4};
        for (int what = 0; what <= 6; what++) {
            c.same("11 the new pair " + what, x.pair(0, 0, what), then[what]);
        }
        x.tremor(50, 0);
        x.pull(0);
        x.lean(0, 0, 1, 2, 45);
        c.same("11 no wobble of the one that fell", x.pair(0, 0, 3), 0);
    }

    /** How many fall by that: the pair itself falls with what is below it. */
    private static void leansWhatFalls() {
        CardCastle x = Checks.loaded("table 2 2 9 0 0 8;card a 1 1;card b 1 1;card d 9 1;card e 9 1;card f 9 1;card g 9 4;card h 9 5;card i 9 3;"
            + "lean 0 0 a b 20;lean 0 1 d e 45;lay 1 0 f");
        // 1 + 4 + 3 = 8, of which the left pair bears its 4; 1 + 4 + 5 = 10 are 5.
        c.same("41 it bears", x.lean(1, 0, 5, 7, 45), 0);
        x.takeDown(1, 0);
        c.same("41 one more is too much", x.lean(1, 0, 5, 6, 45), 3);
        c.same("41 the new pair is on the heap", x.onHeap(3) * 10 + x.onHeap(4), 56);
        c.same("41 by the load of what is below", falls(x), "p1.0b f1.0b p0.0l");
        c.same("51 the falls are undone, too", x.undo(), 2);
        c.same("51 nothing fell", x.count(6) + x.count(2), 0);
        c.same("51 the flat card lies", x.flat(1, 0, 1), 1);
    }

    private static void laysAtTheEdges() {
        CardCastle x = deck("12 2 9 0 0 0", 27, 9, 1);
        for (int column = 0; column < 12; column++) {
            x.lean(0, column, 2 * column, 2 * column + 1, 45);
        }
        c.same("42 the first column", x.lay(1, 0, 26), 0);
        c.same("42 the last column", x.lay(1, 10, 25), 0);
        c.same("12 the card", x.flat(1, 10, 0), 25);
        c.same("12 of a load of 1 the left pair gets all", x.flat(1, 10, 2), 1);
        c.same("12 and the right one nothing", x.flat(1, 10, 3), 0);
        c.noIndex("42 one column more", () -> x.lay(1, 11, 24));
        c.same("52 only two of these are changes", x.undoable(), 8);
    }

    private static void laysWhatFalls() {
        String text = "table 2 2 9 0 0 0;card a 1 1;card b 1 1;card d 1 1;card e 1 1;card f 9 8;card g 9 9;lean 0 0 a b 20;lean 0 1 d e 20";
        CardCastle x = Checks.loaded(text);
        c.same("42 4 and 4", x.lay(1, 0, 4), 0);
        x.lift(1, 0);
        c.same("42 5 and 4", x.lay(1, 0, 5), 2);
        c.same("42 the card itself falls", x.card(5, 2), 1);
        c.same("42 and is bent by that", x.card(5, 0), 8);
        c.same("42 the right pair stands", x.pair(0, 1, 6), 4);
        c.same("42 the order", falls(x), "f1.0b p0.0l");
    }

    // ---- taking away

    /** The card itself goes into the hand, the other one of its pair on the heap. */
    private static void pullsEitherCard() {
        for (int card = 5; card <= 6; card++) {
            CardCastle x = deck("2 2 9 0 0 1", 7, 5, 1);
            Checks.pyramid(x, 2);
            int other = 11 - card;
            c.same("43 the pair falls", x.pull(card), 1);
            c.same("43 the card is in the hand", x.inHand(0), card);
            c.same("43 the other one is on the heap", x.onHeap(0), other);
            c.same("43 no more in the hand", x.count(1), 1);
            c.same("43 no more on the heap", x.count(2), 1);
            c.same("43 the other one is bent", x.card(other, 0), 4);
            c.same("43 the card is not", x.card(card, 0), 5);
            c.same("43 it was pulled", falls(x), "p1.0x");
        }
        CardCastle y = deck("2 2 9 0 0 1", 7, 5, 1);
        Checks.pyramid(y, 2);
        c.same("43 a flat card with a pair", y.pull(4), 2);
        c.same("43 the flat card is in the hand", y.inHand(0), 4);
        c.same("43 the pair is on the heap", y.onHeap(0) * 10 + y.onHeap(1), 56);
        c.same("43 bent", y.card(5, 0) + y.card(6, 0), 8);
        c.same("43 the flat card is not", y.card(4, 0), 5);
        c.same("43 what it was is pulled, the pair is not", falls(y), "p1.0b f1.0x");
        y.lay(1, 0, 4);
        c.same("43 a flat card alone", y.pull(4), 1);
        c.same("43 a pair alone", y.pull(0), 1);
        c.same("43 the other one, from level 0 with BEND 1", y.card(1, 0), 5);
        c.same("43 how often that was", y.count(10), 3);
    }

    private static void pulledIsNotBent() {
        for (int bend = 0; bend <= 2; bend++) {
            CardCastle x = deck("2 2 9 0 0 " + bend, 7, 5, 1);
            Checks.pyramid(x, 2);
            x.pull(1);
            c.same("43 it is not bent", x.card(1, 0), 5);
            c.same("43 nor counted so", x.card(1, 5), 0);
            c.same("43 the other one, BEND " + bend, x.card(0, 0), bend == 0 ? 4 : 5);
            c.same("43 a card above, BEND " + bend, x.card(6, 5), bend <= 1 ? 1 : 0);
        }
    }

    /** A pair on which nothing lies: its cards go into the hand; this is no fall. */
    private static void takesDown() {
        CardCastle x = deck("3 2 9 0 0 0", 9, 5, 1);
        x.lean(0, 0, 0, 1, 45);
        x.lean(0, 1, 2, 3, 45);
        x.lay(1, 0, 4);
        x.lean(1, 0, 5, 6, 45);
        x.lean(0, 2, 7, 8, 45);
        x.tremor(5, 0);
        c.same("44 the first cards in the hand", x.takeDown(1, 0), 2);
        c.same("44 the last column", x.takeDown(0, 2), 4);
        c.same("44 not from under the flat card, none was taken", x.count(1), 4);
        x.lift(1, 0);
        c.same("44 then the left one", x.takeDown(0, 0), 7);
        c.same("44 then the last one", x.takeDown(0, 1), 9);
        for (int card = 0; card < 9; card++) {
            c.same("44 in the hand", x.card(card, 2), 0);
            c.same("44 not bent", x.card(card, 0), 5);
            c.same("14 by numbers", x.inHand(card), card);
        }
        c.same("44 no falls", x.count(6) + x.count(2) + x.count(3) + x.count(4), 0);
    }

    /** A flat card, on which no pair stands: it goes into the hand; this is no fall. */
    private static void lifts() {
        CardCastle x = deck("3 2 9 0 0 0", 8, 5, 3);
        for (int column = 0; column < 3; column++) {
            x.lean(0, column, 2 * column, 2 * column + 1, 45);
        }
        x.lay(1, 0, 6);
        x.lay(1, 1, 7);
        c.same("11 the middle pair bears both", x.pair(0, 1, 5), 3);
        c.same("45 the last column", x.lift(1, 1), 1);
        c.same("11 the middle pair bears less", x.pair(0, 1, 5), 1);
        c.same("45 the first column", x.lift(1, 0), 2);
        c.same("11 it bears nothing", x.pair(0, 1, 5), 0);
        c.same("45 no falls", x.count(6) + x.count(2) + x.count(4), 0);
        c.holds("17 the place is free", x.canLay(1, 0));
    }

    private static void picksUpTheLastOne() {
        CardCastle x = deck("2 1 9 0 0 0", 4, 5, 1);
        x.lean(0, 0, 0, 1, 45);
        x.lean(0, 1, 2, 3, 45);
        x.pull(0);
        c.same("46 the only one", x.pickUp(1), 0);
        c.noArgument("46 not twice", () -> x.pickUp(1));
        c.noIndex("15 nothing is left", () -> x.onHeap(0));
        c.same("46 its stiffness stays", x.card(1, 0), 4);
        x.lean(0, 0, 1, 0, 45);
        x.pull(3);
        x.pull(0);
        c.same("15 in the order in which they fell", x.onHeap(0) * 10 + x.onHeap(1), 21);
        c.same("46 the first one", x.pickUp(2), 1);
        c.same("15 the other one is left", x.onHeap(0), 1);
    }

    // ---- tremors, ticks, turns, smoothing

    /** A tremor is a change, even if nothing is different then, but that it is counted. */
    private static void tremorsOnNothing() {
        CardCastle x = deck("2 1 9 0 0 0", 2, 5, 1);
        c.same("47 no pairs", x.tremor(99, 1), 0);
        c.same("8 it is counted", x.count(11), 1);
        c.same("52 it is a change", x.undoable(), 1);
        c.same("51 undone", x.undo(), 0);
        c.same("8 it is counted no more", x.count(11), 0);
        c.same("47 the least one", x.tremor(1, 0), 0);
        c.same("8 it is counted", x.count(11), 1);
    }

    /** 1 to 100 ticks; the time is not greater than 9999. */
    private static void ticksAtTheEdges() {
        CardCastle x = deck("2 1 99 0 1 0", 2, 1, 1);
        x.lean(0, 0, 0, 1, 45);
        x.tremor(99, 0);
        x.tremor(99, 0);
        c.same("48 one tick", x.tick(1), 1);
        c.same("8 the time", x.count(5), 1);
        c.same("11 the wobble", x.pair(0, 0, 3), 97);
        c.same("48 a hundred ticks", x.tick(100), 0);
        c.same("8 the time", x.count(5), 101);
        c.same("11 the wobble is not below 0", x.pair(0, 0, 3), 0);
        for (int round = 0; round < 98; round++) {
            x.tick(100);
        }
        c.same("8 the time", x.count(5), 9901);
        c.noArgument("48 99 are one too many", () -> x.tick(99));
        c.same("48 98 are not", x.tick(98), 0);
        c.same("8 the greatest time", x.count(5), 9999);
        c.noArgument("48 no tick is left", () -> x.tick(1));
        c.same("53 the greatest time", x.save(0), 9999);
        c.same("54 the greatest time", x.restore(0), 9999);
        x.pull(0);
        c.same("13 a fall at the greatest time", x.fall(0, 0), 9999);
    }

    /** Another angle, or the same one (its wobble stays); this is a change, even if nothing is different then. */
    private static void turnsToTheSameAngle() {
        CardCastle x = deck("2 1 99 0 0 0", 2, 5, 1);
        x.lean(0, 0, 0, 1, 30);
        x.tremor(50, 0);
        String before = Told.castle(x);
        c.same("49 the same angle", x.turn(0, 0, 30), 0);
        c.same("49 nothing is different", Told.castle(x), before);
        c.same("52 it is a change", x.undoable(), 3);
        c.same("49 another angle", x.turn(0, 0, 31), 0);
        c.same("49 the wobble stays", x.pair(0, 0, 3), 5);
        c.same("51 undone", x.undo(), 3);
        c.same("51 the angle before", x.pair(0, 0, 2), 30);
        c.same("51 undone", x.undo(), 2);
        c.same("51 still the angle", x.pair(0, 0, 2), 30);
        c.same("51 undone", x.undo(), 1);
        c.same("51 now the wobble is gone", x.pair(0, 0, 3), 0);
    }

    private static void turnsWhatFalls() {
        CardCastle x = Checks.loaded("table 2 2 9 0 0 8;card a 1 1;card b 1 1;card d 9 1;card e 9 1;card f 9 9;"
            + "lean 0 0 a b 45;lean 0 1 d e 45;lay 1 0 f");
        // The left pair gets 5; its strength is 8 at 45, 5 at 27 (2 * 64 / 25), 4 at 24 (2 * 58 / 25).
        c.same("49 as strong as its load", x.turn(0, 0, 27), 0);
        c.same("11 no reserve", x.pair(0, 0, 6), 0);
        c.same("49 less strong", x.turn(0, 0, 24), 2);
        c.same("49 it fell by its load", falls(x), "f1.0b p0.0l");
        c.same("51 undone", x.undo(), 1);
        c.same("49 to the other side", x.turn(0, 0, 70), 2);
        c.same("51 undone", x.undo(), 1);
        c.same("11 it stands at 27", x.pair(0, 0, 2), 27);
        c.same("49 the other one bears it at 20", x.turn(0, 1, 20), 0);
    }

    /** Stiffer by 1, as long as it is bent. */
    private static void smooths() {
        CardCastle x = deck("2 1 9 0 0 0", 2, 9, 1);
        for (int round = 0; round < 2; round++) {
            x.lean(0, 0, 0, 1, 45);
            x.pull(0);
            x.pickUp(1);
        }
        c.same("10 bent twice", x.card(1, 0), 7);
        c.same("50 once", x.smooth(1), 8);
        c.same("50 twice", x.smooth(1), 9);
        c.noArgument("50 not a third time", () -> x.smooth(1));
        c.noArgument("50 not the one that was pulled", () -> x.smooth(0));
        c.same("10 as often as before", x.card(1, 5), 2);
        x.lean(0, 0, 0, 1, 45);
        c.same("11 as strong as at first", x.pair(0, 0, 4), 72);
        x.pull(0);
        c.same("10 bent again", x.card(1, 5), 3);
        x.pickUp(1);
        c.same("50 again", x.smooth(1), 9);
        c.same("51 undone", x.undo(), 7);
        c.same("51 bent again", x.card(1, 0), 8);
        c.same("50 and smoothed again", x.smooth(1), 9);
    }

    // ---- undo and restore bring all back

    /** Pairs with a wobble, a flat card alone, cards in the hand and on the heap, bent ones, falls, time and tremors. */
    private static CardCastle lively() {
        CardCastle x = Checks.loaded(Checks.deck("4 2 20 1 2 1", 16, 5, 2)
            + ";lean 0 0 a b 45;lean 0 1 c d 45;lay 1 0 e;lean 1 0 f g 45;lean 0 2 h i 45");
        x.tremor(30, 0);
        x.pull(6);
        x.pull(0);
        x.pickUp(5);
        x.lean(0, 0, 0, 9, 45);
        x.lay(1, 0, 10);
        x.tick(1);
        return x;
    }

    private static final Act[] CHANGES = {
        x -> x.lean(0, 3, 11, 12, 33), x -> x.lean(1, 0, 11, 12, 45), x -> x.lay(1, 1, 15), x -> x.pull(9), x -> x.pull(10),
        x -> x.takeDown(0, 2), x -> x.lift(1, 0), x -> x.pickUp(1), x -> x.tremor(3, 1), x -> x.tremor(99, 1), x -> x.tick(1),
        x -> x.tick(100), x -> x.turn(0, 0, 44), x -> x.turn(0, 1, 45), x -> x.smooth(5)
    };

    private static void eachChangeIsUndone() {
        String before = Told.castle(lively());
        for (int change = 0; change < CHANGES.length; change++) {
            CardCastle x = lively();
            CHANGES[change].on(x);
            c.same("52 change " + change + " is a change", x.undoable(), 8);
            c.holds("52 change " + change + " changes something", change == 13 || !before.equals(Told.castle(x)));
            c.same("51 change " + change + " is undone", x.undo(), 7);
            c.same("51 all is as before change " + change, Told.castle(x), before);
        }
    }

    private static void eachChangeIsRestored() {
        String before = Told.castle(lively());
        for (int change = 0; change < CHANGES.length; change++) {
            CardCastle x = lively();
            int slot = change % 2;
            c.same("53 the time", x.save(slot), 1);
            CHANGES[change].on(x);
            CHANGES[8].on(x);
            c.same("54 the time", x.restore(slot), 1);
            c.same("54 all is as before change " + change, Told.castle(x), before);
            c.same("54 nothing can be undone", x.undoable(), 0);
            c.noState("54 nothing can be undone", () -> x.undo());
        }
    }

    /** Only the latest 8 changes are kept; the latest one is undone first. */
    private static void eightChanges() {
        for (int made = 0; made <= 17; made++) {
            CardCastle x = deck("2 1 9 0 0 0", 2, 5, 1);
            c.same("52 none at first", x.undoable(), 0);
            for (int change = 1; change <= made; change++) {
                x.tick(1);
                c.same("52 after " + change, x.undoable(), Math.min(8, change));
            }
            int kept = Math.min(8, made);
            for (int undone = 1; undone <= kept; undone++) {
                c.same("51 undone " + undone + " of " + made, x.undo(), kept - undone);
                c.same("51 the time", x.count(5), made - undone);
            }
            c.noState("51 there is none, of " + made, () -> x.undo());
            c.same("51 the older ones stay", x.count(5), made - kept);
            c.same("52 none is left", x.undoable(), 0);
        }
    }

    /** Undo and changes in turn, beside a plain list of what is due. */
    private static void undoInBetween() {
        int[] steps = {3, 1, 9, 4, 2, 5, 12, 8, 1, 1, 7, 3, 6, 8, 20, 2, 8, 8};
        CardCastle x = deck("2 1 9 0 0 0", 2, 5, 1);
        Deque<Integer> due = new ArrayDeque<>();
        int time = 0;
        for (int step = 0; step < steps.length; step++) {
            for (int times = 0; times < steps[step]; times++) {
                if (step % 2 == 0) {
                    due.addLast(time);
                    time += step + 1;
                    x.tick(step + 1);
                } else if (!due.isEmpty()) {
                    time = due.removeLast();
                    x.undo();
                }
                if (due.size() > 8) {
                    due.removeFirst();
                }
                c.same("52 what can be undone", x.undoable(), due.size());
                c.same("51 the time", x.count(5), time);
            }
        }
    }

    /** Since the last successful call of load or restore. */
    private static void changesSinceLoadAndRestore() {
        CardCastle x = deck("2 1 9 0 0 0", 2, 5, 1);
        x.tick(1);
        x.tick(1);
        x.save(1);
        c.noState("54 a slot without a state", () -> x.restore(0));
        c.noIndex("54 no slot", () -> x.restore(2));
        c.noArgument("3 a wrong text", () -> Checks.load(x, "table"));
        c.noIndex("3 no such bytes", () -> x.load(1));
        c.same("52 what fails takes nothing", x.undoable(), 2);
        c.same("54 what succeeds does", x.restore(1) + x.undoable(), 2);
        c.noState("51 none", () -> x.undo());
        x.tick(5);
        c.same("52 a change since then", x.undoable(), 1);
        c.same("51 it is undone", x.undo(), 0);
        c.same("51 to what was restored", x.count(5), 2);
        x.tick(5);
        Checks.load(x, Checks.deck("2 1 9 0 0 0", 2, 5, 1));
        c.same("52 none since load", x.undoable(), 0);
        c.noState("51 none", () -> x.undo());
        x.tick(7);
        x.undo();
        c.same("51 to what was loaded", x.count(5), 0);
    }

    private static void theBufferStays() {
        CardCastle x = deck("2 1 9 0 0 0", 2, 5, 1);
        x.save(0);
        x.tick(1);
        Checks.feed(x, "table 2 1 5 0 0 0;card q 3 4");
        c.same("51 undo", x.undo(), 0);
        c.same("51 the buffer stays", x.buffered(), 40);
        c.same("54 restore", x.restore(0), 0);
        c.same("54 the buffer stays", x.buffered(), 40);
        c.noArgument("3 an error", () -> x.load(27));
        x.tick(1);
        Checks.feed(x, "table 2 1 5 0 0 0;card q 3 4");
        x.undo();
        x.restore(0);
        c.same("4 the error stays", x.parseError(), 1);
        c.same("5 its position stays", x.errorPosition(), 27);
        c.same("51 the bytes stay", x.load(28), 1);
    }

    private static void pickUpAll(CardCastle x) {
        for (int card = 0; card < 40; card++) {
            x.pickUp(card);
        }
    }

    /** Falls that were forgotten for later ones can be told again behind undo and restore. */
    private static void oldFallsComeBack() {
        CardCastle x = deck("5 5 1 0 0 8", 40, 9, 1);
        for (int round = 0; round < 2; round++) {
            Checks.pyramid(x, 5);
            x.tick(1);
            x.tremor(99, 0);
            pickUpAll(x);
        }
        Checks.pyramid(x, 5);
        x.tick(1);
        c.same("8 two times 25", x.count(6), 50);
        x.save(0);
        String before = falls(x);
        String times = fallTimes(x);
        c.same("13 of the first ones five can be told", times, "222222222222222222222222211111");
        c.same("47 another 25", x.tremor(99, 0), 25);
        c.same("13 they are told now", fallTimes(x), "333333333333333333333333322222");
        x.undo();
        c.same("51 the old ones are told again", fallTimes(x), times);
        c.same("51 all of them", falls(x), before);
        x.tremor(99, 0);
        x.restore(0);
        c.same("54 the old ones are told again", fallTimes(x), times);
        c.same("54 all of them", falls(x), before);
        c.same("54 how many there were", x.count(6), 50);
        c.noIndex("54 not more than 30", () -> x.fall(30, 0));
    }

    private static String fallTimes(CardCastle x) {
        StringBuilder times = new StringBuilder();
        for (int index = 0; index < 30; index++) {
            times.append(x.fall(index, 0));
        }
        return times.toString();
    }

    // ---- the slots

    /** Slot 0 and slot 1, each one in place of what was saved there. */
    private static void slotsByThemselves() {
        CardCastle x = deck("2 1 9 0 0 0", 2, 5, 1);
        x.tick(1);
        c.same("53 slot 1", x.save(1), 1);
        c.noState("54 slot 0 is empty", () -> x.restore(0));
        x.tick(2);
        c.same("53 slot 0", x.save(0), 3);
        x.tick(3);
        c.same("54 slot 1", x.restore(1), 1);
        c.same("54 slot 0", x.restore(0), 3);
        x.tick(4);
        c.same("53 in place of what was saved there", x.save(0), 7);
        c.same("54 slot 1 is as it was", x.restore(1), 1);
        c.same("54 slot 0 is new", x.restore(0), 7);
        c.same("54 the time", x.count(5), 7);
    }

    /** What was saved stays saved, whatever is changed behind it. */
    private static void savedStaysSaved() {
        CardCastle x = lively();
        String before = Told.castle(x);
        x.save(0);
        x.tremor(99, 2);
        x.tick(9);
        c.same("54 restored", x.restore(0), 1);
        c.same("54 all of it", Told.castle(x), before);
        x.pull(0);
        x.pickUp(1);
        c.same("54 restored again", x.restore(0), 1);
        c.same("54 all of it again", Told.castle(x), before);
    }

    private static void saveIsNoChange() {
        CardCastle x = deck("2 1 9 0 0 0", 2, 5, 1);
        x.tick(1);
        c.same("53 the time", x.save(0), 1);
        c.same("52 the tick alone", x.undoable(), 1);
        c.same("51 the tick is undone", x.undo(), 0);
        c.same("51 the time", x.count(5), 0);
        c.same("53 before the first change", x.save(1), 0);
        c.same("52 none", x.undoable(), 0);
        c.same("54 what was saved before undo", x.restore(0), 1);
    }

    private static void undoTouchesNoSlot() {
        CardCastle x = lively();
        x.save(0);
        String saved = Told.castle(x);
        x.undo();
        x.undo();
        c.holds("51 it is another state", !saved.equals(Told.castle(x)));
        c.same("54 the state from before undo", x.restore(0), 1);
        c.same("54 all of it", Told.castle(x), saved);
    }

    /** All falls since the load; undo and restore bring the number back, too. */
    private static void countsComeBack() {
        CardCastle x = deck("3 1 1 0 0 8", 6, 1, 1);
        for (int column = 0; column < 3; column++) {
            x.lean(0, column, 2 * column, 2 * column + 1, 45);
        }
        x.save(0);
        x.pull(0);
        x.save(1);
        x.tremor(99, 0);
        int[] then = {3, 0, 2, 0, 1, 1};
        int[] pulled = {1, 0, 0, 0, 1, 0};
        countsAre(x, then);
        x.undo();
        countsAre(x, pulled);
        x.undo();
        countsAre(x, new int[6]);
        x.restore(1);
        countsAre(x, pulled);
        x.tremor(99, 0);
        countsAre(x, then);
        x.restore(0);
        countsAre(x, new int[6]);
    }

    private static void countsAre(CardCastle x, int[] due) {
        for (int what = 6; what <= 11; what++) {
            c.same("8 count " + what, x.count(what), due[what - 6]);
        }
    }

    // ---- the whole of an object

    /** An object is used for at most 512 calls; the 512th one is answered as any other. */
    private static void fiveHundredAndTwelveCalls() {
        CardCastle x = new CardCastle();
        x.append(0x7461626c, 0x65203220, 0x31203920, 0x30203020, 0x303b6361);
        x.append(0x72642061, 0x20352031, 0x3b636172, 0x64206220, 0x35203120);
        c.same("3 the third call", x.load(40), 2);
        int falls = 0;
        for (int call = 4; call + 3 <= 510; call += 3) {
            x.lean(0, 0, 0, 1, 45);
            x.pull(0);
            x.pickUp(1);
            falls++;
        }
        c.same("41 the 508th call", x.lean(0, 1, 1, 0, 70), 0);
        c.same("8 the 509th call", x.count(6), falls);
        c.same("52 the 510th call", x.undoable(), 8);
        c.same("51 the 511th call", x.undo(), 7);
        c.same("8 the 512th call", x.count(10), 168);
    }
}
