/**
 * The boundary cases of the castle itself: cards, places, loads, falls and
 * tremors (sections 1 to 4 and 6), and of all calls that change nothing
 * (promises 8 to 40).
 */
public final class CastleEdgeTest {
    private static final Checks c = new Checks();

    private static final int MIN = Integer.MIN_VALUE;
    private static final int MAX = Integer.MAX_VALUE;

    private interface AtPlace {
        void at(CardCastle x, int level, int column);
    }

    public static void main(String[] args) {
        placesInAndOut();
        numbersOfPlaces();
        whereACardIs();
        strengthsRoundedDown();
        anglesInAndOut();
        loadsOfFlatCards();
        halvesOfLoads();
        loadsFromBothSides();
        strongAsItsLoad();
        settlesLevelByLevel();
        settlesColumnByColumn();
        orderOfFalls();
        bendFromALevel();
        neverBelowOne();
        causesOfFalls();
        thirtyFallsCanBeTold();
        shakes();
        shakesThatAreNotGreaterThanZero();
        limits();
        wobbleFallsInOrder();
        calm();
        numbersOfProperties();
        handAndHeap();
        whereItCanBeBuilt();
        topEdges();
        weakestTies();
        shakiestTies();
        supportedAndAbove();
        onTableEdges();
        loadsBehindTrials();
        meansAndShares();
        stiffestEdges();
        fallsByEdges();
        leastForceEdges();
        worstColumnEdges();
        calmInEdges();
        tremorsToEdges();
        pulledEdges();
        safestEdges();
        safestTies();
        bestAngleEdges();
        writtenLevels();
        writtenPairs();
        writtenFalls();
        textBytes();
        c.end("CastleEdgeTest");
    }

    private static CardCastle deck(String settings, int cards, int stiffness, int weight) {
        return Checks.loaded(Checks.deck(settings, cards, stiffness, weight));
    }

    /** All forty cards built in: 15 pairs and 10 flat cards. */
    private static CardCastle full(String settings) {
        CardCastle x = deck(settings, 40, 9, 1);
        Checks.pyramid(x, 5);
        return x;
    }

    private static String falls(CardCastle x) {
        return Checks.written(x, x.writeFalls());
    }

    // ---- section 1: cards and places

    private static final AtPlace[] PLACED = {
        (x, level, column) -> x.pair(level, column, 0),
        (x, level, column) -> x.flat(level, column, 0),
        (x, level, column) -> x.canLean(level, column),
        (x, level, column) -> x.canLay(level, column),
        (x, level, column) -> x.supported(level, column),
        (x, level, column) -> x.above(level, column),
        (x, level, column) -> x.bestAngle(level, column),
        (x, level, column) -> x.writePair(level, column)
    };

    /** Level L has the columns 0 to WIDE less 1 less L; a level without columns has no places. */
    private static void placesInAndOut() {
        for (int wide = 2; wide <= 12; wide += 5) {
            for (int levels = 1; levels <= 8; levels++) {
                for (AtPlace call : PLACED) {
                    CardCastle x = Checks.loaded("table " + wide + " " + levels + " 9 0 0 0");
                    for (int level = 0; level < levels; level++) {
                        placesOfALevel(x, call, level, Math.max(0, wide - level));
                    }
                    noPlace(x, call, -1, 0);
                    noPlace(x, call, levels, 0);
                    noPlace(x, call, MAX, 0);
                    noPlace(x, call, MIN, MAX);
                }
            }
        }
    }

    private static void placesOfALevel(CardCastle x, AtPlace call, int level, int columns) {
        for (int column = 0; column < columns; column++) {
            call.at(x, level, column);
        }
        noPlace(x, call, level, -1);
        noPlace(x, call, level, columns);
        noPlace(x, call, level, 12);
        noPlace(x, call, level, MAX);
        noPlace(x, call, level, MIN);
    }

    private static void noPlace(CardCastle x, AtPlace call, int level, int column) {
        c.noIndex("1 no place " + level + ", " + column, () -> call.at(x, level, column));
    }

    private static void numbersOfPlaces() {
        for (int wide = 2; wide <= 12; wide++) {
            int places = 0;
            for (int levels = 1; levels <= 8; levels++) {
                places += Math.max(0, wide - levels + 1);
                c.same("8 places", Checks.loaded("table " + wide + " " + levels + " 9 0 0 0").count(12), places);
            }
        }
    }

    /** Each card is in the hand, on the heap, in a pair, or flat in the castle; level and column, also 0 and 0. */
    private static void whereACardIs() {
        CardCastle x = deck("2 2 9 0 0 0", 8, 5, 1);
        x.lean(0, 0, 0, 1, 45);
        x.lean(0, 1, 2, 3, 45);
        x.lay(1, 0, 4);
        int[][] due = {{2, 0, 0}, {2, 0, 0}, {2, 0, 1}, {2, 0, 1}, {3, 1, 0}, {0, -1, -1}, {0, -1, -1}, {0, -1, -1}};
        for (int card = 0; card < 8; card++) {
            for (int what = 2; what <= 4; what++) {
                c.same("10 card " + card + ", " + what, x.card(card, what), due[card][what - 2]);
            }
        }
        x.lean(1, 0, 5, 6, 45);
        c.same("10 a pair above", x.card(6, 2), 2);
        c.same("10 its level", x.card(6, 3), 1);
        c.same("10 its column", x.card(6, 4), 0);
        x.pull(0);
        c.same("10 pulled", x.card(0, 2), 0);
        c.same("10 its level", x.card(0, 3), -1);
        c.same("10 its column", x.card(0, 4), -1);
        c.same("10 on the heap", x.card(4, 2), 1);
        c.same("10 its level", x.card(4, 3), -1);
        c.same("10 its column", x.card(4, 4), -1);
        c.same("10 the pair that stands", x.card(3, 4), 1);
        c.noIndex("10 card 8", () -> x.card(8, 0));
        c.noIndex("10 card -1", () -> x.card(-1, 0));
        c.noIndex("10 a card far out", () -> x.card(MAX, 6));
        c.noIndex("10 no cards", () -> deck("2 2 9 0 0 0", 0, 1, 1).card(0, 0));
        c.same("10 the 40th card", deck("2 2 9 0 0 0", 40, 7, 1).card(39, 0), 7);
        c.noIndex("10 the 41st card", () -> deck("2 2 9 0 0 0", 40, 7, 1).card(40, 0));
    }

    /** The sum of both, times 100 less twice the difference of the angle and 45, by 25, rounded down. */
    private static void strengthsRoundedDown() {
        CardCastle x = Checks.loaded("table 2 1 9 0 0 0;card a 1 1;card b 1 1;card d 2 1;card e 9 1;card f 9 1;card g 8 1");
        int[][] due = {{0, 1, 45, 8}, {0, 1, 20, 4}, {0, 1, 70, 4}, {3, 4, 45, 72}, {3, 4, 20, 36}, {3, 4, 70, 36},
            {0, 2, 46, 11}, {0, 2, 44, 11}, {3, 5, 21, 35}, {3, 5, 69, 35}, {0, 1, 33, 6}, {0, 1, 32, 5}, {0, 1, 58, 5}};
        for (int[] d : due) {
            c.same("27 strength by " + d[2], x.strengthOf(d[0], d[1], d[2]), d[3]);
            c.same("27 the other way round", x.strengthOf(d[1], d[0], d[2]), d[3]);
        }
        x.lean(0, 0, 3, 5, 21);
        c.same("1 strength of a pair", x.pair(0, 0, 4), 35);
        c.same("27 of cards in a pair", x.strengthOf(3, 5, 45), 68);
        x.pull(3);
        c.same("27 of a card on the heap, bent", x.strengthOf(3, 5, 45), 64);
    }

    /** An angle is 20 to 70. */
    private static void anglesInAndOut() {
        CardCastle x = deck("2 1 9 0 0 0", 4, 5, 1);
        c.same("27 the least angle", x.strengthOf(0, 1, 20), 20);
        c.same("27 the greatest angle", x.strengthOf(0, 1, 70), 20);
        int[] wrong = {19, 71, 0, -20, -45, MIN, MAX};
        for (int angle : wrong) {
            c.noArgument("27 angle " + angle, () -> x.strengthOf(0, 1, angle));
            c.noArgument("41 angle " + angle, () -> x.lean(0, 1, 2, 3, angle));
        }
        x.lean(0, 0, 0, 1, 20);
        for (int angle : wrong) {
            c.noArgument("49 angle " + angle, () -> x.turn(0, 0, angle));
        }
        c.same("41 the angle stays", x.pair(0, 0, 2), 20);
        x.turn(0, 0, 70);
        c.same("49 the greatest angle", x.pair(0, 0, 2), 70);
        x.lean(0, 1, 2, 3, 70);
        c.same("41 the greatest angle", x.pair(0, 1, 2), 70);
        x.turn(0, 1, 20);
        c.same("49 the least angle", x.pair(0, 1, 2), 20);
    }

    // ---- section 2: loads

    /** The load of a flat card: its weight, plus, if a pair stands on it, the weights of both and the load of this pair. */
    private static void loadsOfFlatCards() {
        CardCastle x = Checks.loaded("table 3 3 9 0 0 0;card a 9 1;card b 9 1;card d 9 1;card e 9 1;card f 9 1;card g 9 1;"
            + "card h 9 2;card i 9 3;card j 9 4;card k 9 5;card l 9 6;card m 9 7;card n 9 9;"
            + "lean 0 0 a b 45;lean 0 1 d e 45;lean 0 2 f g 45;lay 1 0 h;lay 1 1 i");
        c.same("12 its weight alone", x.flat(1, 0, 1), 2);
        c.same("12 its weight alone", x.flat(1, 1, 1), 3);
        x.lean(1, 0, 8, 9, 45);
        c.same("12 with a pair", x.flat(1, 0, 1), 2 + 4 + 5);
        c.same("11 nothing lies on this pair", x.pair(1, 0, 5), 0);
        x.lean(1, 1, 10, 11, 45);
        x.lay(2, 0, 12);
        c.same("12 and the left share of the card on it", x.flat(1, 0, 1), 2 + 4 + 5 + 5);
        c.same("12 and the right share of the card on it", x.flat(1, 1, 1), 3 + 6 + 7 + 4);
        c.same("11 the left pair", x.pair(0, 0, 5), 8);
        c.same("11 the pair in the middle", x.pair(0, 1, 5), 8 + 10);
        c.same("11 the right pair", x.pair(0, 2, 5), 10);
        c.same("11 the left pair above", x.pair(1, 0, 5), 5);
        c.same("11 the right pair above", x.pair(1, 1, 5), 4);
        c.same("11 a reserve", x.pair(0, 1, 6), 72 - 18);
    }

    /** The left pair gets half of the load, rounded up, and the right pair the rest. */
    private static void halvesOfLoads() {
        for (int weight = 1; weight <= 9; weight++) {
            CardCastle x = Checks.loaded("table 2 2 9 0 0 0;card a 9 1;card b 9 1;card d 9 1;card e 9 1;card f 9 " + weight
                + ";lean 0 0 a b 45;lean 0 1 d e 45;lay 1 0 f");
            int[] left = {0, 1, 1, 2, 2, 3, 3, 4, 4, 5};
            c.same("12 left of " + weight, x.flat(1, 0, 2), left[weight]);
            c.same("12 right of " + weight, x.flat(1, 0, 3), weight - left[weight]);
            c.same("11 left of " + weight, x.pair(0, 0, 5), left[weight]);
            c.same("11 right of " + weight, x.pair(0, 1, 5), weight - left[weight]);
        }
    }

    /** The load of a pair is the sum of what it gets of the flat cards that lie on it: none, one, or two. */
    private static void loadsFromBothSides() {
        CardCastle x = deck("4 2 9 0 0 0", 12, 9, 5);
        for (int column = 0; column < 4; column++) {
            x.lean(0, column, 2 * column, 2 * column + 1, 45);
        }
        x.lay(1, 0, 8);
        int[] one = {3, 2, 0, 0};
        int[] two = {3, 2, 3, 2};
        int[] three = {3, 5, 5, 2};
        loadsAre(x, one);
        x.lay(1, 2, 9);
        loadsAre(x, two);
        x.lay(1, 1, 10);
        loadsAre(x, three);
        x.lift(1, 0);
        int[] without = {0, 3, 5, 2};
        loadsAre(x, without);
    }

    private static void loadsAre(CardCastle x, int[] due) {
        for (int column = 0; column < due.length; column++) {
            c.same("11 the load at " + column, x.pair(0, column, 5), due[column]);
        }
    }

    // ---- section 3: falls

    /** A pair falls by its load if that is greater than its strength, and not if it is the same. */
    private static void strongAsItsLoad() {
        String start = "table 2 2 9 0 0 0;card a 1 1;card b 1 1;card d 9 1;card e 9 1;card f 9 7;card g 9 8;card h 9 9;"
            + "lean 0 0 a b 20;lean 0 1 d e 45";
        for (int card = 4; card <= 6; card++) {
            CardCastle x = Checks.loaded(start);
            // The left pair has the strength 4; it gets 4 of 7, 4 of 8, and 5 of 9.
            c.same("42 card " + card, x.lay(1, 0, card), card == 6 ? 2 : 0);
            c.same("7 falls by a load", x.count(7), card == 6 ? 1 : 0);
            c.same("11 the reserve", x.pair(0, 0, 6), card == 6 ? -1 : 0);
        }
        CardCastle right = Checks.loaded("table 2 2 9 0 0 0;card a 9 1;card b 9 1;card d 1 1;card e 1 1;card f 9 9;card g 1 1;card h 1 1;"
            + "lean 0 0 a b 45;lean 0 1 d e 20");
        c.same("42 the right pair gets 4 of 9", right.lay(1, 0, 4), 0);
        c.same("41 and 5 of 11", right.lean(1, 0, 5, 6, 45), 3);
        c.same("3 it fell by its load", falls(right), "p1.0b f1.0b p0.1l");
    }

    /** The one with the smallest level falls first; the loads are those behind the falls before. */
    private static void settlesLevelByLevel() {
        CardCastle x = Checks.loaded("table 3 3 9 0 0 0;card a 9 1;card b 9 1;card d 9 1;card e 9 1;card f 1 1;card g 1 1;"
            + "card h 9 1;card i 9 9;card j 1 1;card k 1 1;card l 9 1;card m 9 1;card n 9 9;"
            + "lean 0 0 a b 45;lean 0 1 d e 45;lean 0 2 f g 20;lay 1 0 h;lay 1 1 i;lean 1 0 j k 20;lean 1 1 l m 45;lay 2 0 n");
        // Overloaded are 1.0 (5 of the 9 above, strength 4) and 0.2 (7 of 15, strength 4).
        c.same("3 the lower one first", falls(x), "f2.0b p1.1b f1.1b p0.2l");
        c.same("3 the upper one stands then", x.pair(1, 0, 6), 4);
        CardCastle y = Checks.loaded("table 3 3 9 0 0 0;card a 9 1;card b 9 1;card d 9 1;card e 9 1;card f 9 1;card g 9 1;"
            + "card h 9 1;card i 9 9;card j 1 1;card k 1 1;card l 9 1;card m 9 1;card n 9 9;"
            + "lean 0 0 a b 45;lean 0 1 d e 45;lean 0 2 f g 45;lay 1 0 h;lay 1 1 i;lean 1 0 j k 20;lean 1 1 l m 45;lay 2 0 n");
        c.same("3 the upper one alone", falls(y), "f2.0b p1.0l");
    }

    /** Of several the one with the smallest column falls first; it may relieve the next one. */
    private static void settlesColumnByColumn() {
        String cards = "table 3 2 9 0 0 0;card a 1 1;card b 1 1;card d 1 1;card e 1 1;card f 1 1;card g 1 1;card h 9 9;card i 9 9;"
            + "card j 9 9;card k 9 9;";
        CardCastle x = Checks.loaded(cards + "lean 0 0 a b 20;lean 0 1 d e 20;lay 1 0 h;lean 1 0 i j 45");
        c.same("3 both are overloaded, the left one falls", falls(x), "p1.0b f1.0b p0.0l");
        c.same("3 the right one stands", x.pair(0, 1, 6), 4);
        CardCastle y = Checks.loaded(cards + "lean 0 0 a b 20;lean 0 1 d e 20;lean 0 2 f g 20;lay 1 0 h;lay 1 1 k");
        // The loads are 5, 4 + 5 and 4: the left one falls, then the middle one still has 5.
        c.same("3 one behind the other", falls(y), "f1.1b p0.1l f1.0b p0.0l");
        c.same("3 the last one stands", y.pair(0, 2, 6), 4);
        c.same("8 two by their load", y.count(7), 2);
        CardCastle z = Checks.loaded(cards + "lean 0 0 a b 45;lean 0 1 d e 20;lean 0 2 f g 45;lay 1 0 h;lay 1 1 k");
        c.same("3 the middle one takes both cards, the left one first", falls(z), "f1.1b f1.0b p0.1l");
    }

    // In the full castle the pair at 0.2 bears all but the two sides.
    private static final String[] FROM_THE_MIDDLE = {"p0.2x", "f1.1b", "p1.1b", "f2.0b", "p2.0b", "f3.0b", "p3.0b", "f4.0b", "p4.0b",
        "f2.1b", "p2.1b", "f3.1b", "p3.1b", "f1.2b", "p1.2b", "f2.2b", "p2.2b"};
    private static final int[] HEAP_BEHIND_THAT = {5, 13, 14, 15, 22, 23, 24, 31, 32, 33, 37, 38, 39, 25, 26, 27, 34, 35, 36,
        16, 17, 18, 28, 29, 30};

    /** First what falls itself, then at its upper left with all that falls by it, then at its upper right. */
    private static void orderOfFalls() {
        CardCastle x = full("5 5 9 0 0 8");
        c.same("43 from the bottom", x.pull(4), FROM_THE_MIDDLE.length);
        StringBuilder due = new StringBuilder();
        for (int index = FROM_THE_MIDDLE.length - 1; index >= 0; index--) {
            due.append(FROM_THE_MIDDLE[index]).append(index > 0 ? " " : "");
        }
        c.same("3 in the order of section 3", falls(x), due.toString());
        c.same("3 how many are on the heap", x.count(2), HEAP_BEHIND_THAT.length);
        for (int index = 0; index < HEAP_BEHIND_THAT.length; index++) {
            c.same("3 of a pair the first card before the second one", x.onHeap(index), HEAP_BEHIND_THAT[index]);
        }
        c.same("3 pairs that stand", x.count(3), 6);
        c.same("3 flat cards that lie", x.count(4), 2);
        c.same("3 the left side", x.pair(1, 0, 5), 0);
        c.same("3 the right side", x.pair(1, 3, 5), 0);
    }

    private static int levelInFullCastle(int card) {
        return card < 10 ? 0 : card < 22 ? 1 : card < 31 ? 2 : card < 37 ? 3 : 4;
    }

    /** If it fell from a level of BEND or more (0 to 8), its stiffness becomes less by 1. */
    private static void bendFromALevel() {
        for (int bend = 0; bend <= 8; bend++) {
            CardCastle x = full("5 5 9 0 0 " + bend);
            x.pull(4);
            for (int card : HEAP_BEHIND_THAT) {
                int bent = levelInFullCastle(card) >= bend ? 1 : 0;
                c.same("3 card " + card + " with BEND " + bend, x.card(card, 0), 9 - bent);
                c.same("10 how often, card " + card + " with BEND " + bend, x.card(card, 5), bent);
            }
            c.same("43 the card itself is not bent", x.card(4, 0), 9);
            c.same("43 nor counted so", x.card(4, 5), 0);
            c.same("3 what stands is not bent", x.card(0, 0), 9);
        }
    }

    /** The stiffness becomes less by 1, but not below 1; only what became less is counted. */
    private static void neverBelowOne() {
        CardCastle x = Checks.loaded("table 2 1 9 0 0 0;card a 3 1;card b 9 1;card d 1 1");
        int[] stiffness = {2, 1, 1, 1};
        int[] often = {1, 2, 2, 2};
        for (int round = 0; round < 4; round++) {
            x.lean(0, 0, 1, 0, 45);
            x.pull(1);
            x.pickUp(0);
            c.same("3 the stiffness, round " + round, x.card(0, 0), stiffness[round]);
            c.same("10 how often it became less, round " + round, x.card(0, 5), often[round]);
        }
        c.same("50 as often as it became less", x.smooth(0), 2);
        c.same("50 as often as it became less", x.smooth(0), 3);
        c.noArgument("50 and not more often", () -> x.smooth(0));
        c.same("10 smooth does not change that", x.card(0, 5), 2);
        x.lean(0, 0, 1, 2, 45);
        x.pull(1);
        c.same("3 a stiffness of 1", x.card(2, 0), 1);
        c.same("10 did not become less", x.card(2, 5), 0);
        x.pickUp(2);
        c.noArgument("50 so it is not bent", () -> x.smooth(2));
    }

    /** Each fall is noted with its cause: 0 load, 1 wobble, 2 below (whatever the cause of that was), 3 pulled. */
    private static void causesOfFalls() {
        String text = Checks.deck("2 2 1 0 0 0", 8, 1, 5) + ";lean 0 0 a b 45;lean 0 1 c d 45;lay 1 0 e;lean 1 0 f g 45";
        CardCastle x = Checks.loaded(text);
        c.same("3 its load was too great", falls(x), "");
        c.same("49 turned", x.turn(0, 1, 20), 3);
        c.same("3 its load was too great", falls(x), "p1.0b f1.0b p0.1l");
        c.same("8 by cause 0", x.count(7), 1);
        c.same("8 by cause 2", x.count(9), 2);
        CardCastle y = Checks.loaded(text);
        c.same("47 shaken", y.tremor(4, 0), 4);
        c.same("3 its wobble was too great", falls(y), "p0.1w p1.0b f1.0b p0.0w");
        c.same("8 by cause 1", y.count(8), 2);
        c.same("8 by cause 2", y.count(9), 2);
        CardCastle z = Checks.loaded(text);
        z.tick(77);
        c.same("43 pulled", z.pull(4), 2);
        c.same("3 it was pulled", falls(z), "p1.0b f1.0x");
        c.same("8 by cause 3", z.count(10), 1);
        int[] pair = {77, 1, 0, 0, 2};
        int[] flat = {77, 1, 0, 1, 3};
        for (int what = 0; what <= 4; what++) {
            c.same("13 the pair, " + what, z.fall(0, what), pair[what]);
            c.same("13 the flat card, " + what, z.fall(1, what), flat[what]);
        }
        c.same("8 all falls", z.count(6), 2);
    }

    /** The latest 30 falls can be told; all are counted. */
    private static void thirtyFallsCanBeTold() {
        CardCastle x = deck("12 1 9 0 0 8", 2, 9, 1);
        c.noIndex("13 none yet", () -> x.fall(0, 0));
        for (int made = 1; made <= 62; made++) {
            x.lean(0, made % 12, 0, 1, 45);
            x.tick(1);
            x.pull(0);
            x.pickUp(1);
            if (made == 1 || made >= 28 && made <= 33 || made >= 59) {
                int told = Math.min(made, 30);
                c.same("8 all are counted", x.count(6), made);
                c.same("13 the latest one", x.fall(0, 0), made);
                c.same("13 the last one that can be told", x.fall(told - 1, 0), made - told + 1);
                c.same("13 its column", x.fall(told - 1, 2), (made - told + 1) % 12);
                c.noIndex("13 one more", () -> x.fall(told, 0));
            }
        }
        CardCastle y = full("5 5 1 0 0 8");
        c.same("47 all falls at once", y.tremor(99, 2), 25);
        c.same("8 by wobble only those on the table", y.count(8), 5);
        c.same("8 the others from below", y.count(9), 20);
        c.same("13 the first one", y.fall(24, 4), 1);
        c.noIndex("13 only 25", () -> y.fall(25, 0));
    }

    // ---- section 4: tremors and calm

    /** (force - DAMP * D) * (L + 1), by the sum of the stiffness, rounded down. */
    private static void shakes() {
        CardCastle x = deck("12 1 99 9 0 0", 24, 1, 1);
        for (int column = 0; column < 12; column++) {
            x.lean(0, column, 2 * column, 2 * column + 1, 45);
        }
        x.tremor(99, 5);
        int[] due = {4, 13, 22, 31, 40, 49, 40, 31, 22, 13, 4, 0};
        for (int column = 0; column < 12; column++) {
            c.same("4 the wobble at " + column, x.pair(0, column, 3), due[column]);
        }
        CardCastle y = deck("2 2 99 9 0 0", 7, 2, 1);
        Checks.pyramid(y, 2);
        y.tremor(20, 0);
        // Level 1 lies one off: (20 - 9) * 2 = 22, by 4; column 1 two off: 20 - 18 = 2, by 4.
        c.same("4 at the column", y.pair(0, 0, 3), 5);
        c.same("4 two off", y.pair(0, 1, 3), 0);
        c.same("4 a level higher, one off", y.pair(1, 0, 3), 5);
        y.tremor(20, 1);
        c.same("4 from the other side", y.pair(1, 0, 3), 10);
        CardCastle z = full("5 5 99 0 0 0");
        z.tremor(18, 0);
        for (int level = 0; level < 5; level++) {
            c.same("4 the level " + level + " with DAMP 0", z.pair(level, 4 - level, 3), level + 1);
        }
    }

    /** If the shake is greater than 0; it is never less wobble by a shake below 0. */
    private static void shakesThatAreNotGreaterThanZero() {
        CardCastle x = deck("3 1 99 9 0 0", 2, 1, 1);
        x.lean(0, 0, 0, 1, 45);
        x.tremor(18, 1);
        c.same("4 a shake of 0", x.pair(0, 0, 3), 0);
        x.tremor(19, 1);
        c.same("4 a shake of 1 is too little for 2", x.pair(0, 0, 3), 0);
        x.tremor(20, 1);
        c.same("4 a shake of 2", x.pair(0, 0, 3), 1);
        x.tremor(1, 2);
        c.same("4 a shake of -35", x.pair(0, 0, 3), 1);
        x.tremor(17, 1);
        c.same("4 a shake of -1", x.pair(0, 0, 3), 1);
        c.same("8 they are tremors all the same", x.count(11), 5);
        c.same("52 and changes, as the lean before", x.undoable(), 6);
    }

    /** A wobble that is greater than LIMIT (1 to 99), and not one that is the same. */
    private static void limits() {
        CardCastle x = deck("2 1 1 0 0 0", 2, 1, 1);
        x.lean(0, 0, 0, 1, 45);
        c.same("4 the wobble is LIMIT", x.tremor(2, 0), 0);
        c.same("4 it is 1", x.pair(0, 0, 3), 1);
        c.same("4 the wobble is one more", x.tremor(2, 0), 1);
        CardCastle y = deck("2 1 99 0 0 0", 2, 1, 1);
        y.lean(0, 0, 0, 1, 45);
        y.tremor(98, 0);
        y.tremor(98, 0);
        c.same("4 the wobble is LIMIT", y.tremor(3, 0), 0);
        c.same("4 it is 99", y.pair(0, 0, 3), 99);
        c.same("4 the wobble is one more", y.tremor(2, 0), 1);
        c.same("4 the cause", y.fall(0, 4), 1);
    }

    /** The one with the smallest level, of several with the smallest column, falls by its wobble. */
    private static void wobbleFallsInOrder() {
        CardCastle x = deck("2 2 1 0 0 0", 7, 1, 1);
        Checks.pyramid(x, 2);
        c.same("4 only the upper one", x.fallsBy(2, 0), 1);
        c.same("4 all of it", x.tremor(10, 0), 4);
        c.same("4 the lower ones first", falls(x), "p0.1w p1.0b f1.0b p0.0w");
        CardCastle y = deck("3 1 1 0 0 0", 6, 1, 1);
        Checks.pyramid(y, 1);
        y.lean(0, 1, 2, 3, 45);
        y.lean(0, 2, 4, 5, 45);
        y.tremor(10, 2);
        c.same("4 the smallest column first", falls(y), "p0.2w p0.1w p0.0w");
        CardCastle z = deck("2 2 1 0 0 0", 7, 1, 1);
        Checks.pyramid(z, 2);
        c.same("4 the upper one alone", z.tremor(2, 0), 1);
        c.same("4 the flat card under it stays", z.flat(1, 0, 1), 1);
        c.same("4 by its wobble", falls(z), "p1.0w");
    }

    /** The wobble of each pair becomes less by CALM (0 to 20), but not below 0. */
    private static void calm() {
        CardCastle x = deck("4 1 99 0 20 0", 8, 1, 1);
        x.lean(0, 0, 0, 1, 45);
        x.tremor(2, 0);
        x.lean(0, 1, 2, 3, 45);
        x.tremor(38, 0);
        x.lean(0, 3, 4, 5, 45);
        x.tremor(2, 0);
        int[] before = {21, 20, -1, 1};
        int[] behind = {1, 0, -1, 0};
        for (int column = 0; column < 4; column++) {
            c.same("4 the wobble before", x.pair(0, column, 3), before[column]);
        }
        c.same("48 how many wobble then", x.tick(1), 1);
        for (int column = 0; column < 4; column++) {
            c.same("4 the wobble behind a tick", x.pair(0, column, 3), behind[column]);
        }
        c.same("48 none", x.tick(1), 0);
        c.same("48 no pair below 0", x.pair(0, 0, 3), 0);
        CardCastle y = deck("2 1 99 0 0 0", 4, 1, 1);
        y.lean(0, 0, 0, 1, 45);
        y.tremor(10, 0);
        y.lean(0, 1, 2, 3, 45);
        y.tremor(10, 0);
        c.same("4 without CALM", y.tick(100), 2);
        c.same("4 the wobble stays", y.pair(0, 0, 3), 10);
        CardCastle z = deck("2 1 99 0 1 0", 2, 1, 1);
        c.same("48 no pairs", z.tick(1), 0);
        z.lean(0, 0, 0, 1, 45);
        z.tremor(99, 0);
        z.tremor(99, 0);
        z.tremor(2, 0);
        c.same("4 of 99 by 98", z.tick(98), 1);
        c.same("4 the last one", z.tick(1), 0);
    }

    // ---- promises 8 to 17

    /** IllegalArgumentException if what is out of range. */
    private static void numbersOfProperties() {
        CardCastle x = deck("2 2 1 0 0 0", 7, 1, 1);
        Checks.pyramid(x, 2);
        x.pull(6);
        int[] most = {12, 5, 5, 6, 3, 4};
        for (int call = 0; call < most.length; call++) {
            for (int what = 0; what <= most[call]; what++) {
                property(x, call, what);
            }
            int number = call;
            int[] wrong = {-1, most[call] + 1, MIN, MAX};
            for (int what : wrong) {
                c.noArgument((8 + call) + " what " + what, () -> property(x, number, what));
            }
        }
        for (int what = -1; what <= 7; what += 8) {
            int number = what;
            c.noArgument("11 without a pair, too", () -> x.pair(1, 0, number));
            c.noArgument("12 without a flat card, too", () -> x.flat(0, 0, number));
        }
    }

    private static int property(CardCastle x, int call, int what) {
        switch (call) {
            case 0: return x.count(what);
            case 1: return x.setting(what);
            case 2: return x.card(0, what);
            case 3: return x.pair(0, 0, what);
            case 4: return x.flat(1, 0, what);
            default: return x.fall(0, what);
        }
    }

    /** IndexOutOfBoundsException if there is no such index: an empty hand and heap, and full ones. */
    private static void handAndHeap() {
        CardCastle none = deck("2 2 9 0 0 0", 0, 1, 1);
        c.noIndex("14 no cards", () -> none.inHand(0));
        c.noIndex("15 no cards", () -> none.onHeap(0));
        CardCastle x = deck("5 5 1 0 0 8", 40, 9, 1);
        c.same("14 the last one", x.inHand(39), 39);
        c.noIndex("14 one more", () -> x.inHand(40));
        c.noIndex("14 -1", () -> x.inHand(-1));
        Checks.pyramid(x, 5);
        c.same("8 an empty hand", x.count(1), 0);
        c.noIndex("14 an empty hand", () -> x.inHand(0));
        c.noIndex("15 an empty heap", () -> x.onHeap(0));
        x.tremor(99, 0);
        c.same("8 a full heap", x.count(2), 40);
        c.same("15 the first one", x.onHeap(0), 0);
        c.same("15 the last one", x.onHeap(39), 9);
        c.same("15 the last but one", x.onHeap(38), 8);
        c.noIndex("15 one more", () -> x.onHeap(40));
        c.noIndex("15 -1", () -> x.onHeap(-1));
        c.noIndex("14 the hand is empty still", () -> x.inHand(0));
        c.same("46 the first one", x.pickUp(0), 39);
        c.same("46 the last one", x.pickUp(9), 38);
        c.same("15 then the second one is the first", x.onHeap(0), 1);
        c.same("15 then the last but one is the last", x.onHeap(37), 8);
        c.noIndex("15 the end moved", () -> x.onHeap(38));
        c.same("14 by numbers", x.inHand(1), 9);
        c.noIndex("14 two", () -> x.inHand(2));
        x.lean(0, 0, 9, 0, 45);
        x.tremor(99, 0);
        c.same("15 what falls again comes last", x.onHeap(38), 9);
        c.same("15 and its second card behind it", x.onHeap(39), 0);
        c.same("46 one from the middle", x.pickUp(8), 39);
        c.same("15 what is behind it moves up", x.onHeap(37), 9);
        c.same("15 what is before it stays", x.onHeap(0), 1);
    }

    /** Section 6. */
    private static void whereItCanBeBuilt() {
        CardCastle x = deck("3 3 9 0 0 0", 20, 9, 1);
        c.holds("16 on the table", x.canLean(0, 2));
        c.holds("16 there is no flat card", !x.canLean(1, 0));
        c.holds("17 not on the table", !x.canLay(0, 0));
        c.holds("17 both pairs are missing", !x.canLay(1, 0));
        x.lean(0, 1, 0, 1, 45);
        c.holds("16 there is a pair", !x.canLean(0, 1));
        c.holds("17 the left pair is missing", !x.canLay(1, 0));
        c.holds("17 the right pair is missing", !x.canLay(1, 1));
        x.lean(0, 0, 2, 3, 45);
        c.holds("17 both pairs are there", x.canLay(1, 0));
        c.holds("17 on one side only", !x.canLay(1, 1));
        x.lay(1, 0, 4);
        c.holds("17 a flat card is there", !x.canLay(1, 0));
        c.holds("16 on a flat card", x.canLean(1, 0));
        c.holds("17 no pairs on the flat card", !x.canLay(2, 0));
        x.lean(1, 0, 5, 6, 45);
        c.holds("16 a pair is there", !x.canLean(1, 0));
        c.holds("17 a flat card and a pair are there", !x.canLay(1, 0));
        x.lean(0, 2, 7, 8, 45);
        x.lay(1, 1, 9);
        x.lean(1, 1, 10, 11, 45);
        c.holds("17 on the highest level", x.canLay(2, 0));
        c.holds("16 not yet on the highest level", !x.canLean(2, 0));
        x.lay(2, 0, 12);
        c.holds("16 on the highest level", x.canLean(2, 0));
        x.lean(2, 0, 13, 14, 45);
        c.holds("16 the castle is full", !x.canLean(2, 0));
        c.same("26 all is built", x.builtShare(), 1.0f);
    }

    // ---- promises 18 to 28

    /** The greatest level with a pair; NONE without pairs. */
    private static void topEdges() {
        CardCastle x = deck("2 2 9 0 0 0", 7, 9, 1);
        c.same("18 without pairs", x.top(), -1);
        x.lean(0, 0, 0, 1, 45);
        c.same("18 on the table", x.top(), 0);
        x.lean(0, 1, 2, 3, 45);
        x.lay(1, 0, 4);
        c.same("18 a flat card is no pair", x.top(), 0);
        x.lean(1, 0, 5, 6, 45);
        c.same("18 on it", x.top(), 1);
        c.same("18 as high as it goes", full("5 5 9 0 0 0").top(), 4);
    }

    /** The least reserve, of several the smallest level, then the smallest column; NONE without pairs. */
    private static void weakestTies() {
        CardCastle x = Checks.loaded("table 5 2 9 0 0 0;card a 9 1;card b 9 1;card d 9 1;card e 9 1;card f 9 1;"
            + "card g 1 1;card h 1 1;card i 1 1;card j 1 1;card k 1 1;card l 1 1");
        c.same("19 without pairs", x.weakest(), -1);
        x.lean(0, 0, 0, 1, 45);
        c.same("19 the only one", x.weakest(), 0);
        x.lean(0, 1, 2, 3, 45);
        c.same("19 the smallest column", x.weakest(), 0);
        x.lay(1, 0, 4);
        c.same("19 the left one gets more", x.weakest(), 0);
        x.lean(1, 0, 5, 6, 45);
        c.same("19 the least reserve", x.weakest(), 100);
        x.lean(0, 4, 7, 8, 45);
        c.same("19 of two the smallest level", x.weakest(), 4);
        x.lean(0, 3, 9, 10, 45);
        c.same("19 of three the smallest column", x.weakest(), 3);
        x.turn(1, 0, 44);
        c.same("19 the least one again", x.weakest(), 100);
    }

    /** The greatest wobble, of several the smallest level, then the smallest column; NONE without pairs. */
    private static void shakiestTies() {
        CardCastle x = Checks.loaded("table 5 2 99 0 0 0;card a 1 1;card b 1 1;card d 1 1;card e 1 1;card f 1 1;"
            + "card g 2 1;card h 2 1;card i 1 1;card j 1 1");
        c.same("20 without pairs", x.shakiest(), -1);
        x.lean(0, 1, 0, 1, 45);
        c.same("20 without a wobble", x.shakiest(), 1);
        x.lean(0, 2, 2, 3, 45);
        x.lay(1, 1, 4);
        x.lean(1, 1, 5, 6, 45);
        c.same("20 without a wobble the smallest column", x.shakiest(), 1);
        x.tremor(10, 0);
        c.same("20 as great on the level 1", x.pair(1, 1, 3) - x.pair(0, 1, 3), 0);
        c.same("20 of three the smallest place", x.shakiest(), 1);
        x.lean(0, 0, 7, 8, 45);
        c.same("20 not one without a wobble", x.shakiest(), 1);
        x.tremor(1, 0);
        c.same("20 no more by a force of 1", x.shakiest(), 1);
        x.tremor(2, 0);
        c.same("20 one more for all", x.shakiest(), 1);
        x.takeDown(1, 1);
        x.lift(1, 1);
        x.takeDown(0, 1);
        c.same("20 the next column", x.shakiest(), 2);
    }

    /** How many would fall, itself too; the weights of what is above, its own ones not; 0 without a pair. */
    private static void supportedAndAbove() {
        CardCastle x = full("6 6 9 0 0 0");
        int[][] due = {{0, 0, 9, 12}, {0, 2, 17, 24}, {0, 4, 9, 12}, {3, 0, 3, 3}, {4, 0, 1, 0}, {0, 5, 0, 0}, {5, 0, 0, 0}, {4, 1, 0, 0}};
        for (int[] d : due) {
            c.same("21 at " + d[0] + ", " + d[1], x.supported(d[0], d[1]), d[2]);
            c.same("22 at " + d[0] + ", " + d[1], x.above(d[0], d[1]), d[3]);
        }
        c.same("21 nothing fell", x.count(6), 0);
        c.same("24 the weight of all", x.weight(), 40);
        for (int[] d : due) {
            c.same("22 asked alone", full("6 6 9 0 0 0").above(d[0], d[1]), d[3]);
        }
        x.pull(0);
        c.same("21 what fell before does not count", x.supported(0, 2), 11);
        c.same("22 what fell before does not count", x.above(0, 2), 15);
        CardCastle y = deck("2 2 9 0 0 0", 5, 9, 4);
        y.lean(0, 0, 0, 1, 45);
        c.same("21 nothing lies on it", y.supported(0, 0), 1);
        c.same("22 nothing lies on it", y.above(0, 0), 0);
        y.lean(0, 1, 2, 3, 45);
        y.lay(1, 0, 4);
        c.same("21 a flat card alone", y.supported(0, 1), 2);
        c.same("22 a flat card alone", y.above(0, 1), 4);
        c.same("21 a flat card is no pair", y.supported(1, 0), 0);
        c.same("22 a flat card is no pair", y.above(1, 0), 0);
    }

    /** The load of the pair at a column of level 0, plus the weights of its two cards; 0 without a pair. */
    private static void onTableEdges() {
        CardCastle x = Checks.loaded("table 12 2 9 0 0 0;card a 9 9;card b 9 8;card d 9 7;card e 9 6;card f 9 5;"
            + "lean 0 0 a b 45;lean 0 1 d e 45");
        c.same("23 no load", x.onTable(0), 17);
        x.lay(1, 0, 4);
        c.same("23 the left one", x.onTable(0), 20);
        c.same("23 the right one", x.onTable(1), 15);
        c.same("23 the last column", x.onTable(11), 0);
        int[] wrong = {-1, 12, MIN, MAX};
        for (int column : wrong) {
            c.noIndex("23 column " + column, () -> x.onTable(column));
        }
        CardCastle y = deck("2 1 9 0 0 0", 2, 9, 1);
        y.lean(0, 1, 0, 1, 45);
        c.same("23 the last column", y.onTable(1), 2);
        c.noIndex("23 one more", () -> y.onTable(2));
    }

    /** The loads of what is, also when it was asked before what would be. */
    private static void loadsBehindTrials() {
        CardCastle x = deck("3 2 9 0 0 0", 9, 9, 4);
        x.lean(0, 0, 0, 1, 45);
        x.lean(0, 1, 2, 3, 45);
        x.lay(1, 0, 4);
        x.lean(1, 0, 5, 6, 45);
        x.fallsIfPulled(5);
        c.same("23 behind fallsIfPulled", x.onTable(0), 14);
        x.fallsIfPulled(5);
        c.same("25 behind fallsIfPulled", x.meanReserve(), 68.0);
        x.fallsIfPulled(5);
        c.same("38 behind fallsIfPulled", Checks.written(x, x.writePair(0, 1)), "c/45\\d 6:72");
        x.fallsIfPulled(5);
        c.same("12 behind fallsIfPulled", x.flat(1, 0, 1), 12);
        x.fallsBy(99, 0);
        c.same("11 behind fallsBy", x.pair(0, 0, 5), 6);
        x.safest(7);
        c.same("19 behind safest", x.weakest(), 0);
        x.supported(0, 0);
        c.same("11 behind supported", x.pair(0, 0, 6), 66);
    }

    private static void meansAndShares() {
        CardCastle x = deck("2 8 9 0 0 0", 5, 9, 4);
        c.same("25 without pairs", x.meanReserve(), 0.0);
        c.same("26 without pairs", x.builtShare(), 0.0f);
        c.same("24 nothing is built", x.weight(), 0);
        x.lean(0, 1, 0, 1, 45);
        c.same("25 one pair", x.meanReserve(), 72.0);
        c.same("26 levels without columns have no places", x.builtShare(), 1.0f / 3.0f);
        x.lean(0, 0, 2, 3, 46);
        c.same("25 two pairs", x.meanReserve(), 71.0);
        c.same("26 two pairs", x.builtShare(), 2.0f / 3.0f);
        x.lay(1, 0, 4);
        c.same("25 a flat card is no pair", x.meanReserve(), 69.0);
        c.same("26 a flat card is no pair", x.builtShare(), 2.0f / 3.0f);
        c.same("24 it has its weight", x.weight(), 20);
        c.same("26 of 68 places", full("12 8 9 0 0 0").builtShare(), 15.0f / 68.0f);
        CardCastle y = deck("4 1 9 0 0 0", 6, 1, 1);
        y.lean(0, 0, 0, 1, 45);
        y.lean(0, 1, 2, 3, 45);
        y.lean(0, 2, 4, 5, 20);
        c.same("25 not a whole number", y.meanReserve(), 20.0 / 3.0);
    }

    /** The greatest sum of the stiffness of two cards in the hand; NONE with fewer than two. */
    private static void stiffestEdges() {
        c.same("28 no cards", deck("2 1 9 0 0 0", 0, 1, 1).stiffest(), -1);
        c.same("28 one card", deck("2 1 9 0 0 0", 1, 9, 1).stiffest(), -1);
        c.same("28 two cards", deck("2 1 9 0 0 0", 2, 1, 1).stiffest(), 1);
        c.same("28 of all the first ones", deck("2 1 9 0 0 0", 40, 5, 1).stiffest(), 1);
        int[][] due = {{5, 3, 5, 5, 2}, {3, 5, 9, 5, 102}, {1, 1, 9, 9, 203}, {9, 1, 1, 1, 1}, {1, 9, 1, 1, 1}, {1, 1, 1, 2, 3}};
        for (int[] d : due) {
            CardCastle x = Checks.loaded("table 2 1 9 0 0 0;card a " + d[0] + " 1;card b " + d[1] + " 1;card d " + d[2] + " 1;card e " + d[3] + " 1");
            c.same("28 of several the smallest", x.stiffest(), d[4]);
        }
        CardCastle y = deck("5 4 9 0 0 0", 40, 9, 1);
        Checks.pyramid(y, 4);
        c.same("28 the first two that are left", y.stiffest(), 2627);
        y.lean(0, 4, 26, 27, 45);
        c.same("28 the next two", y.stiffest(), 2829);
        CardCastle z = deck("2 1 9 0 0 0", 4, 9, 1);
        z.lean(0, 0, 0, 1, 45);
        z.lean(0, 1, 2, 3, 45);
        c.same("28 none in the hand", z.stiffest(), -1);
        z.pull(2);
        c.same("28 one in the hand, one on the heap", z.stiffest(), -1);
        z.pull(0);
        c.same("28 two in the hand", z.stiffest(), 2);
    }

    // ---- promises 29 to 36

    private static final int[] WRONG_FORCES = {0, 100, -1, MIN, MAX};

    private static void fallsByEdges() {
        CardCastle x = full("5 5 1 0 0 0");
        c.same("29 the least force", x.fallsBy(1, 0), 0);
        c.same("29 the greatest force", x.fallsBy(99, 4), 25);
        c.same("29 nothing is changed", x.count(6) + x.count(11) + x.pair(4, 0, 3) + x.undoable() - 8, 0);
        int[] columns = {-1, 5, MIN, MAX};
        for (int force : WRONG_FORCES) {
            c.noArgument("29 force " + force, () -> x.fallsBy(force, 0));
            c.noArgument("33 force " + force, () -> x.tremorsTo(force, 0));
            c.noArgument("31 force " + force, () -> x.worstColumn(force));
            c.noArgument("47 force " + force, () -> x.tremor(force, 0));
        }
        for (int column : columns) {
            c.noArgument("29 column " + column, () -> x.fallsBy(50, column));
            c.noArgument("33 column " + column, () -> x.tremorsTo(50, column));
            c.noArgument("30 column " + column, () -> x.leastForce(column));
            c.noArgument("47 column " + column, () -> x.tremor(50, column));
        }
        c.same("29 without pairs", deck("2 1 1 0 0 0", 2, 1, 1).fallsBy(99, 1), 0);
    }

    /** The least force by which something would fall now; NONE if nothing would by 99. */
    private static void leastForceEdges() {
        c.same("30 without pairs", deck("2 1 1 0 0 0", 2, 1, 1).leastForce(1), -1);
        CardCastle x = Checks.loaded("table 2 1 10 0 0 0;card a 4 1;card b 5 1;lean 0 0 a b 45");
        c.same("30 by 99", x.leastForce(0), 99);
        CardCastle y = Checks.loaded("table 2 1 11 0 0 0;card a 4 1;card b 5 1;lean 0 0 a b 45");
        c.same("30 not by 99", y.leastForce(0), -1);
        CardCastle z = deck("2 2 1 0 0 0", 7, 1, 1);
        Checks.pyramid(z, 2);
        c.same("30 by 2", z.leastForce(0), 2);
        z.tremor(1, 0);
        c.same("30 by 1", z.leastForce(0), 1);
        c.same("29 by 1", z.fallsBy(1, 0), 1);
        CardCastle far = Checks.loaded("table 3 1 1 9 0 0;card a 1 1;card b 1 1;lean 0 2 a b 45");
        int[] due = {40, 22, 4};
        for (int column = 0; column < 3; column++) {
            c.same("30 at column " + column, far.leastForce(column), due[column]);
        }
    }

    /** The column with the most falls, of several the smallest one. */
    private static void worstColumnEdges() {
        c.same("31 without pairs", deck("12 1 1 0 0 0", 2, 1, 1).worstColumn(99), 0);
        CardCastle x = Checks.loaded("table 3 1 9 9 0 0;card a 1 1;card b 1 1;card d 1 1;card e 1 1;lean 0 2 a b 45");
        c.same("31 the last column", x.worstColumn(30), 2);
        c.same("31 nothing falls", x.worstColumn(19), 0);
        c.same("31 the same in two", x.worstColumn(38), 1);
        c.same("31 the same in all", x.worstColumn(99), 0);
        c.same("31 the least force", x.worstColumn(1), 0);
        CardCastle y = full("5 5 2 9 0 0");
        int most = 0;
        int due = 0;
        for (int column = 0; column < 5; column++) {
            int falls = y.fallsBy(90, column);
            due = falls > most ? column : due;
            most = Math.max(most, falls);
        }
        c.holds("31 not the first column", due > 0);
        c.same("31 as fallsBy tells", y.worstColumn(90), due);
    }

    /** Ticks until no pair wobbles, 0 if it is so now; NONE if it is never so. */
    private static void calmInEdges() {
        CardCastle none = deck("2 1 99 0 0 0", 2, 1, 1);
        c.same("32 without pairs and without CALM", none.calmIn(), 0);
        none.lean(0, 0, 0, 1, 45);
        c.same("32 no wobble and no CALM", none.calmIn(), 0);
        none.tremor(2, 0);
        c.same("32 never", none.calmIn(), -1);
        none.takeDown(0, 0);
        c.same("32 what wobbled is gone", none.calmIn(), 0);
        int[][] due = {{10, 20, 1}, {20, 20, 1}, {21, 20, 2}, {40, 20, 2}, {41, 20, 3}, {1, 1, 1}, {48, 1, 48}, {1, 20, 1}, {14, 7, 2}, {13, 7, 2}, {15, 7, 3}};
        for (int[] d : due) {
            CardCastle x = deck("2 1 99 0 " + d[1] + " 0", 2, 1, 1);
            x.lean(0, 1, 0, 1, 45);
            x.tremor(2 * d[0], 0);
            c.same("32 a wobble of " + d[0] + " by " + d[1], x.calmIn(), d[2]);
            c.same("48 one tick less is too few", d[2] > 1 ? x.tick(d[2] - 1) : 1, 1);
            c.same("32 then one tick more", x.calmIn(), 1);
            c.same("48 it is calm", x.tick(1), 0);
            c.same("32 it is so now", x.calmIn(), 0);
        }
    }

    /** How many such tremors until something falls, at least 1; NONE if nothing falls by 50. */
    private static void tremorsToEdges() {
        c.same("33 without pairs", deck("2 1 1 0 0 0", 2, 1, 1).tremorsTo(99, 0), -1);
        for (int limit = 48; limit <= 50; limit++) {
            CardCastle x = deck("2 1 " + limit + " 0 0 0", 2, 1, 1);
            x.lean(0, 0, 0, 1, 45);
            c.same("33 ones up to " + limit, x.tremorsTo(2, 0), limit < 50 ? limit + 1 : -1);
            c.same("33 a force that is too little", x.tremorsTo(1, 0), -1);
            c.same("33 no tremor was made", x.count(11) + x.pair(0, 0, 3), 0);
        }
        CardCastle y = deck("2 1 49 0 20 0", 2, 1, 1);
        y.lean(0, 0, 0, 1, 45);
        c.same("33 without ticks between", y.tremorsTo(2, 1), 50);
        y.tremor(99, 1);
        c.same("33 at least 1", y.tremorsTo(2, 1), 1);
        c.same("33 and as weak as can be, never", y.tremorsTo(1, 1), -1);
    }

    private static void pulledEdges() {
        CardCastle x = full("5 5 9 0 0 0");
        c.same("34 the first card of a pair", x.fallsIfPulled(4), 17);
        c.same("34 the second card of a pair", x.fallsIfPulled(5), 17);
        c.same("34 a flat card", x.fallsIfPulled(10), 8);
        c.same("34 on the top", x.fallsIfPulled(39), 1);
        c.same("34 under the top", x.fallsIfPulled(37), 2);
        c.noIndex("34 card 40", () -> x.fallsIfPulled(40));
        c.noIndex("34 card -1", () -> x.fallsIfPulled(-1));
        c.same("34 nothing fell", x.count(6) + x.count(1) + x.count(2), 0);
        x.pull(4);
        c.same("34 in the hand", x.fallsIfPulled(4), 0);
        c.same("34 on the heap", x.fallsIfPulled(5), 0);
        c.same("34 one of a side", x.fallsIfPulled(0), 3);
    }

    /** A place at which nothing would fall; NONE if there is none, or the card is not in the hand. */
    private static void safestEdges() {
        String text = "table 2 2 9 0 0 0;card a 1 1;card b 1 1;card d 1 1;card e 1 1;card f 9 8;card g 9 9;card h 9 1;card i 9 1;lean 0 0 a b 20";
        CardCastle x = Checks.loaded(text);
        c.same("35 no place", x.safest(4), -1);
        x.lean(0, 1, 2, 3, 20);
        c.same("35 a reserve of 0 is none below 0", x.safest(4), 100);
        c.same("35 something would fall", x.safest(5), -1);
        c.same("35 the first card of a pair", x.safest(0), -1);
        c.same("35 the second card of a pair", x.safest(3), -1);
        c.same("35 nothing is changed", x.card(4, 2) + x.flat(1, 0, 0) + x.count(6), -1);
        c.noIndex("35 card 8", () -> x.safest(8));
        c.noIndex("35 card -1", () -> x.safest(-1));
        c.same("42 it bears", x.lay(1, 0, 4), 0);
        c.same("35 a flat card", x.safest(4), -1);
        c.same("35 no place is left", x.safest(6), -1);
        x.lean(1, 0, 6, 7, 45);
        c.same("35 it fell", x.count(6), 3);
        c.same("35 on the heap", x.safest(6), -1);
        CardCastle y = Checks.loaded("table 4 2 9 0 0 0;card a 1 1;card b 1 1;card d 1 1;card e 1 1;card f 9 1;card g 9 1;card h 9 1;card i 9 1;"
            + "card j 9 9;lean 0 0 a b 20;lean 0 1 d e 45;lean 0 2 f g 45;lean 0 3 h i 45");
        // At 100 the first pair would fall (5 of 4); at 101 the second has 3 left; at 102 none less than the first, with 4.
        c.same("35 a place where it would fall is none", y.safest(8), 102);
    }

    /** The greatest least reserve, of several with the smallest level, then with the smallest column. */
    private static void safestTies() {
        CardCastle x = deck("5 3 9 0 0 0", 19, 9, 1);
        int card = 0;
        for (int column = 0; column < 5; column++) {
            x.lean(0, column, card, card + 1, column == 4 ? 20 : 45);
            card += 2;
        }
        x.lay(1, 0, 10);
        x.lay(1, 1, 11);
        x.lean(1, 0, 12, 13, 45);
        x.lean(1, 1, 14, 15, 45);
        // The last pair has 36 and is the weakest, but for a card at 103, by which it has 36 still (it gets nothing of a weight of 1).
        c.same("19 the weakest one", x.weakest(), 4);
        c.holds("17 a place of level 2", x.canLay(2, 0));
        c.same("35 the smallest level, the smallest column", x.safest(16), 102);
        x.lay(1, 2, 16);
        c.same("35 the next column", x.safest(17), 103);
        x.lay(1, 3, 17);
        c.same("35 then the next level", x.safest(18), 200);
    }

    /** The greatest strength, of several angles the smallest one; NONE if there is no pair. */
    private static void bestAngleEdges() {
        for (int one = 1; one <= 9; one += 4) {
            for (int angle = 20; angle <= 70; angle += 25) {
                CardCastle x = Checks.loaded("table 3 2 9 0 0 0;card a " + one + " 1;card b 1 1;card d 9 1;card e 9 1;card f 9 1;"
                    + "lean 0 1 a b " + angle + ";lean 0 2 d e 45;lay 1 1 f");
                c.same("36 with " + one, x.bestAngle(0, 1), 45);
                c.same("36 without a pair", x.bestAngle(0, 0), -1);
                c.same("36 a flat card alone", x.bestAngle(1, 1), -1);
                c.same("36 it is not turned", x.pair(0, 1, 2), angle);
                c.same("36 and no greater strength elsewhere", x.strengthOf(0, 1, 45), 4 * one + 4);
                c.holds("36 less at 44", x.strengthOf(0, 1, 44) < 4 * one + 4);
            }
        }
    }

    // ---- promises 37 to 40

    private static String level(CardCastle x, int level) {
        return Checks.written(x, x.writeLevel(level));
    }

    private static void writtenLevels() {
        CardCastle x = deck("12 2 9 0 0 0", 28, 9, 1);
        c.same("37 an empty level", level(x, 0), "            ");
        c.same("37 how many bytes", x.writeLevel(1), 11);
        int card = 0;
        for (int column = 0; column < 12; column++) {
            x.lean(0, column, card, card + 1, 45);
            card += 2;
        }
        c.same("37 a full level", level(x, 0), "AAAAAAAAAAAA");
        x.lay(1, 0, 24);
        x.lay(1, 10, 25);
        c.same("37 flat cards at both ends", level(x, 1), "_         _");
        x.lean(1, 10, 26, 27, 45);
        c.same("37 a pair on its flat card", level(x, 1), "_         A");
        int[] wrong = {-1, 2, MIN, MAX};
        for (int none : wrong) {
            c.noIndex("37 level " + none, () -> x.writeLevel(none));
        }
        c.same("40 the text stays behind that", x.textByte(10), 'A');
        CardCastle y = Checks.loaded("table 3 8 9 0 0 0");
        c.same("37 the last level with columns", level(y, 2), " ");
        c.same("37 the first level without columns", y.writeLevel(3), 0);
        c.noIndex("40 a text of no bytes", () -> y.textByte(0));
        c.same("37 the highest level", y.writeLevel(7), 0);
        c.noIndex("37 one more", () -> y.writeLevel(8));
    }

    private static void writtenPairs() {
        CardCastle x = Checks.loaded("table 2 2 9 0 0 0;card a 1 1;card abcdef 1 1;card zzzzzz 9 9;card az 9 9;card za 9 9;card y 9 9;card x 9 9;card w 9 9;"
            + "lean 0 0 a abcdef 20;lean 0 1 zzzzzz az 70");
        c.same("38 a load of 0", Checks.written(x, x.writePair(0, 0)), "a/20\\abcdef 0:4");
        c.same("38 names of six letters", Checks.written(x, x.writePair(0, 1)), "zzzzzz/70\\az 0:36");
        c.same("38 how many bytes", x.writePair(0, 1), 17);
        c.same("38 without a pair", Checks.written(x, x.writePair(1, 0)), "-");
        c.noIndex("38 no place", () -> x.writePair(1, 1));
        c.noIndex("38 no place", () -> x.writePair(2, 0));
        c.same("40 the text stays behind that", x.textByte(0), '-');
        x.takeDown(0, 0);
        x.lean(0, 0, 4, 5, 45);
        x.lay(1, 0, 6);
        c.same("38 a load of one digit", Checks.written(x, x.writePair(0, 0)), "za/45\\y 5:72");
        c.same("38 a flat card alone", Checks.written(x, x.writePair(1, 0)), "-");
        x.lean(1, 0, 7, 0, 44);
        c.same("38 a load of two digits", Checks.written(x, x.writePair(0, 0)), "za/45\\y 10:72");
        c.same("38 on level 1", Checks.written(x, x.writePair(1, 0)), "w/44\\a 0:39");
    }

    private static void writtenFalls() {
        CardCastle x = deck("12 1 9 0 0 8", 2, 9, 1);
        c.same("39 no falls", x.writeFalls(), 0);
        c.noIndex("40 a text of no bytes", () -> x.textByte(0));
        StringBuilder due = new StringBuilder();
        for (int made = 1; made <= 31; made++) {
            int column = made % 2 == 0 ? 10 : 11;
            x.lean(0, column, 0, 1, 45);
            x.pull(0);
            x.pickUp(1);
            due.insert(0, "p0." + column + "x" + (made > 1 ? " " : ""));
            if (made == 1) {
                c.same("39 one fall, no space", falls(x), "p0.11x");
            }
            if (made == 30) {
                c.same("39 thirty falls, all told", falls(x), due.toString());
                c.same("39 the longest text", x.writeFalls(), 30 * 6 + 29);
            }
        }
        c.same("39 of 31 the first one is left out", falls(x), due.substring(0, 30 * 6 + 29));
    }

    /** IndexOutOfBoundsException if there is no such byte (always, before the first text). */
    private static void textBytes() {
        CardCastle x = new CardCastle();
        int[] first = {0, -1, 1, MIN, MAX};
        for (int index : first) {
            c.noIndex("40 before the first text, byte " + index, () -> x.textByte(index));
        }
        Checks.load(x, Checks.deck("3 2 9 0 0 0", 4, 9, 1) + ";lean 0 1 a b 45");
        c.noIndex("40 loading is no text", () -> x.textByte(0));
        x.writeLevel(0);
        c.same("40 the first byte", x.textByte(0), ' ');
        c.same("40 the last byte", x.textByte(2), ' ');
        int[] wrong = {3, -1, MIN, MAX};
        for (int index : wrong) {
            c.noIndex("40 byte " + index, () -> x.textByte(index));
        }
        x.writePair(0, 0);
        c.same("40 a shorter text", x.textByte(0), '-');
        c.noIndex("40 the bytes of the longer one are gone", () -> x.textByte(1));
        x.writeLevel(0);
        x.save(0);
        x.takeDown(0, 1);
        c.same("40 stays behind a change", x.textByte(1), 'A');
        x.undo();
        c.same("40 stays behind undo", x.textByte(1), 'A');
        x.restore(0);
        c.same("40 stays behind restore", x.textByte(1), 'A');
        Checks.load(x, "table 2 1 1 0 0 0");
        c.same("40 stays behind load", x.textByte(2), ' ');
        c.noArgument("3 a wrong text", () -> Checks.load(x, "table"));
        c.same("40 stays behind a wrong text", x.textByte(1), 'A');
        c.noIndex("40 its end stays, too", () -> x.textByte(3));
    }
}
