/** Each promise of the document by itself: ordinary inputs, edges, wrong inputs. */
public final class PromiseTest {
    private static final Checks c = new Checks();

    // Hand: g (6), i (8), j (9). Strengths: 40, 36, 20. The flat card e has the
    // load 4 + 4 + 5 = 13, of which the pair a b gets 7 and the pair c d gets 6.
    private static final String CARDS = "card a 5 3;card b 5 3;card c 4 2;card d 6 2;card e 3 4;"
        + "card f 3 4;card g 9 9;card h 2 5;card i 1 1;card j 7 1";
    private static final String BUILT = ";lean 0 0 a b 45;lean 0 1 c d 40;lay 1 0 e;lean 1 0 f h 45";
    private static final String BASE = "table 4 3 20 4 5 1;" + CARDS + BUILT;
    private static final String EMPTY = "table 4 3 20 4 5 1;" + CARDS;

    // Two overloaded pairs: c d (strength 4) goes by its load of 14.
    private static final String FALLING = "table 2 2 5 0 0 0;card a 1 9;card b 1 9;card c 1 1;card d 1 1;"
        + "card e 9 9;card f 9 9;card g 9 9;lean 0 0 c d 20;lean 0 1 a b 45;lay 1 0 e;lean 1 0 f g 45";

    private static final int MIN = Integer.MIN_VALUE;
    private static final int MAX = Integer.MAX_VALUE;

    private static CardCastle base() {
        return Checks.loaded(BASE);
    }

    public static void main(String[] args) {
        input();
        parseErrors();
        parseEdges();
        counts();
        cardsAndPlaces();
        falls();
        looks();
        wouldBe();
        texts();
        building();
        takingAway();
        shaking();
        undoing();
        saving();
        stateBrought();
        withoutText();
        c.end("PromiseTest");
    }

    // ---- promises 1 to 7

    private static void input() {
        CardCastle x = new CardCastle();
        c.same("1 NONE", CardCastle.NONE, -1);
        c.same("1 buffered", x.buffered(), 0);
        c.same("1 undoable", x.undoable(), 0);
        c.same("4 before load", x.parseError(), 0);
        c.same("5 before load", x.errorPosition(), -1);
        for (int call = 1; call <= 45; call++) {
            c.same("2 append", x.append(-1, 0, MAX, MIN, 538976288), 20 * call);
        }
        c.same("2 append to a full buffer", x.append(0, 0, 0, 0, 0), -1);
        c.same("6 full", x.buffered(), 900);
        c.noIndex("3 load of 901", () -> x.load(901));
        c.noIndex("3 load of -1", () -> x.load(-1));
        c.same("6 behind a refused load", x.buffered(), 900);
        c.same("4 behind a refused load", x.parseError(), 0);
        c.noArgument("3 load of a wrong text", () -> x.load(900));
        c.same("6 behind a wrong text", x.buffered(), 0);
        c.same("4 wrong text", x.parseError(), 1);
        c.same("5 wrong text", x.errorPosition(), 0);
        c.noIndex("3 load of too many", () -> x.load(1));
        c.same("4 stays", x.parseError(), 1);
        c.same("5 stays", x.errorPosition(), 0);
        c.same("3 load", Checks.load(x, BASE), 10);
        c.same("4 after success", x.parseError(), 0);
        c.same("5 after success", x.errorPosition(), -1);
        c.same("6 after success", x.buffered(), 0);
        finding(x);
        c.noArgument("3 wrong text over a castle", () -> Checks.load(x, "table 2"));
        c.same("3 the previous castle stays", x.count(3), 3);
        CardCastle y = Checks.loaded("table 2 1 1 0 0 0");
        c.same("3 no cards", y.count(0), 0);
        appendOrder();
    }

    private static void appendOrder() {
        CardCastle x = new CardCastle();
        x.append(0x7461626c, 0x65203220, 0x31203120, 0x30203020, 0x30202020);
        c.same("2 the most significant byte first", x.load(20), 0);
        c.same("2 what was parsed", x.setting(0), 2);
    }

    private static void finding(CardCastle x) {
        find(x, "a", 1, 0);
        find(x, "jj", 1, 9);
        find(x, "jj", 2, -1);
        find(x, "z", 1, -1);
        find(x, "a", 0, -1);
        find(x, "a ", 2, -1);
        find(x, "abcdefg", 7, -1);
        find(x, "A", 1, -1);
        find(x, "\u00e1", 1, -1);
        Checks.feed(x, "a");
        c.noIndex("7 find of -1", () -> x.find(-1));
        c.noIndex("7 find of 21", () -> x.find(21));
        c.same("7 the buffer stays", x.buffered(), 20);
        c.same("7 find behind that", x.find(1), 0);
        CardCastle y = new CardCastle();
        Checks.feed(y, "a");
        c.noState("7 find without a text", () -> y.find(99));
        c.same("7 the buffer stays", y.buffered(), 20);
        CardCastle z = Checks.loaded("table 2 1 1 0 0 0;card zzzzzz 1 1;card aaaaaa 1 1;card card 1 1");
        find(z, "zzzzzz", 6, 0);
        find(z, "aaaaaa", 6, 1);
        find(z, "card", 4, 2);
        find(z, "aaaaa", 5, -1);
    }

    private static void find(CardCastle x, String name, int n, int want) {
        Checks.feed(x, name);
        c.same("7 find " + name + " by " + n, x.find(n), want);
        c.same("7 find empties", x.buffered(), 0);
    }

    // ---- section 5: the text format

    private static void fails(String text, int code, int position) {
        CardCastle x = new CardCastle();
        c.noArgument("3 load of " + text, () -> Checks.load(x, text));
        c.same("4 parseError of " + text, x.parseError(), code);
        c.same("5 errorPosition of " + text, x.errorPosition(), position);
        c.noState("3 nothing loaded by " + text, () -> x.top());
    }

    private static void failsBehind(String start, String rest, int code, int position) {
        fails(start + rest, code, start.length() + position);
    }

    private static void parseErrors() {
        String table = "table 4 3 20 4 5 1";
        fails("", 1, 0);
        fails("   ", 1, 3);
        fails("tabl", 1, 0);
        fails("tables", 1, 0);
        fails("table", 1, 5);
        fails("table  ", 1, 7);
        fails("table 1 3", 2, 6);
        fails("table 13 3", 2, 6);
        fails("table 2 0", 2, 8);
        fails("table 2 9", 2, 8);
        fails("table 2 1 0", 2, 10);
        fails("table 2 1 100", 2, 10);
        fails("table 2 1 1 10", 2, 12);
        fails("table 2 1 1 0 21", 2, 14);
        fails("table 2 1 1 0 0 9", 2, 16);
        fails("table 2 1 1 0 0", 1, 15);
        fails("table 0002 1", 1, 6);
        fails("table x", 1, 6);
        failsBehind(table, "5", 2, -1);
        failsBehind(table, ";", 1, 1);
        failsBehind(table, ";;", 1, 1);
        failsBehind(table, " 5", 1, 1);
        failsBehind(table, " card", 1, 1);
        failsBehind(table, ";table", 1, 1);
        failsBehind(table, ";card", 1, 5);
        failsBehind(table, ";card 5", 1, 6);
        failsBehind(table, ";card Abc", 1, 6);
        failsBehind(table, ";card abcdefg 5", 1, 6);
        failsBehind(table, ";card a 0", 2, 8);
        failsBehind(table, ";card a 10", 2, 8);
        failsBehind(table, ";card a 1 0", 2, 10);
        failsBehind(table, ";card a 1 10", 2, 10);
        failsBehind(table, ";card a 1", 1, 9);
        failsBehind(table, ";card a 1 1 1", 1, 12);
        failsBehind(table, ";card a 1 1;card a", 3, 17);
        failsBehind(table, ";card a 1 1\n", 1, 11);
        failsBehind(table, ";card a 1 1;lean a", 1, 17);
        lineErrors("table 4 3 20 4 5 1;" + CARDS + ";");
        fails(cards(41), 4, cards(40).length() + 1);
        c.same("3 forty cards", Checks.loaded(cards(40)).count(0), 40);
        c.same("5 forty cards and a lean line", Checks.loaded(cards(40) + ";lean 0 0 na nb 45").count(3), 1);
    }

    private static void lineErrors(String start) {
        failsBehind(start, "lean 3", 2, 5);
        failsBehind(start, "lean 0 4", 2, 7);
        failsBehind(start, "lean 2 2", 2, 7);
        failsBehind(start, "lean 1 0", 5, 7);
        failsBehind(start, "lean 0 0 z", 3, 9);
        failsBehind(start, "lean 0 0 5", 1, 9);
        failsBehind(start, "lean 0 0 a a", 3, 11);
        failsBehind(start, "lean 0 0 a z", 3, 11);
        failsBehind(start, "lean 0 0 a b 19", 2, 13);
        failsBehind(start, "lean 0 0 a b 71", 2, 13);
        failsBehind(start, "lean 0 0 a b", 1, 12);
        failsBehind(start, "lean 0 0 a b 45;lean 0 0", 5, 23);
        failsBehind(start, "lean 0 0 a b 45;lean 0 1 a", 3, 25);
        failsBehind(start, "lean 0 0 a b 45;lean 0 1 c b", 3, 27);
        failsBehind(start, "lay 0", 2, 4);
        failsBehind(start, "lay 3", 2, 4);
        failsBehind(start, "lay 1 3", 2, 6);
        failsBehind(start, "lay 1 0", 5, 6);
        failsBehind(start, "lean 0 0 a b 45;lay 1 0", 5, 22);
        failsBehind(start, "lean 0 1 a b 45;lay 1 0", 5, 22);
        failsBehind(start, "lean 0 0 a b 45;lean 0 1 c d 45;lay 1 0 a", 3, 40);
        failsBehind(start, "lean 0 0 a b 45;lean 0 1 c d 45;lay 1 0 e;lay 1 0", 5, 48);
        fails("table 2 4 5 0 0 0;card a 5 5;lean 3 0", 2, 36);
        fails("table 2 1 5 0 0 0;card a 5 5;lay 1", 2, 33);
    }

    private static String cards(int count) {
        StringBuilder text = new StringBuilder("table 12 8 99 0 0 8");
        for (int card = 0; card < count; card++) {
            text.append(";card ").append((char) ('n' + card / 26)).append((char) ('a' + card % 26)).append(" 1 1");
        }
        return text.toString();
    }

    private static void parseEdges() {
        CardCastle x = Checks.loaded("  table002 1 099 9 20 8 ;card a5 5;card table1 9;lean0 0a table70  ");
        c.same("5 tokens without blanks", x.count(0), 2);
        c.same("5 a pair", x.pair(0, 0, 2), 70);
        c.same("5 leading zeros", x.setting(0), 2);
        c.same("5 leading zeros", x.setting(2), 99);
        CardCastle y = new CardCastle();
        Checks.feed(y, "table 2 1 1 0 0 012");
        c.same("3 only the first n bytes", y.load(17), 0);
        c.same("3 the rest is gone", y.buffered(), 0);
        c.same("3 what was cut", y.setting(5), 0);
    }

    // ---- promises 8 and 9

    private static void counts() {
        CardCastle x = base();
        long[] due = {10, 3, 0, 3, 1, 0, 0, 0, 0, 0, 0, 0, 9};
        for (int what = 0; what <= 12; what++) {
            c.same("8 count " + what, x.count(what), due[what]);
        }
        c.noArgument("8 count of -1", () -> x.count(-1));
        c.noArgument("8 count of 13", () -> x.count(13));
        x.pull(0);
        x.tick(3);
        x.tremor(1, 0);
        long[] then = {10, 4, 4, 1, 0, 3, 3, 0, 0, 2, 1, 1, 9};
        for (int what = 0; what <= 12; what++) {
            c.same("8 count " + what + " then", x.count(what), then[what]);
        }
        int[] settings = {4, 3, 20, 4, 5, 1};
        for (int what = 0; what <= 5; what++) {
            c.same("9 setting " + what, x.setting(what), settings[what]);
        }
        c.noArgument("9 setting of 6", () -> x.setting(6));
        c.noArgument("9 setting of -1", () -> x.setting(-1));
        c.same("8 places of a low wide castle", Checks.loaded("table 12 1 1 0 0 0").count(12), 12);
        c.same("8 places of the greatest castle", Checks.loaded("table 12 8 1 0 0 0").count(12), 68);
        c.same("8 levels without columns", Checks.loaded("table 2 8 1 0 0 0").count(12), 3);
        CardCastle y = Checks.loaded(FALLING);
        c.same("8 falls by load", y.count(7), 1);
        y.tremor(12, 0);
        c.same("8 falls by wobble", y.count(8), 1);
    }

    // ---- promises 10 to 12, 14 to 17

    private static void cardsAndPlaces() {
        CardCastle x = base();
        theCards(x);
        thePairs(x);
        theFlats(x);
        c.same("14 inHand", x.inHand(0), 6);
        c.same("14 inHand", x.inHand(2), 9);
        c.noIndex("14 inHand of 3", () -> x.inHand(3));
        c.noIndex("14 inHand of -1", () -> x.inHand(-1));
        c.noIndex("15 an empty heap", () -> x.onHeap(0));
        x.pull(3);
        int[] heap = {2, 4, 5, 7};
        for (int index = 0; index < 4; index++) {
            c.same("15 onHeap", x.onHeap(index), heap[index]);
        }
        c.noIndex("15 onHeap of 4", () -> x.onHeap(4));
        c.noIndex("15 onHeap of -1", () -> x.onHeap(-1));
        c.same("10 on the heap", x.card(5, 2), 1);
        c.same("10 level on the heap", x.card(5, 3), -1);
        c.same("10 column on the heap", x.card(5, 4), -1);
        c.same("10 bent", x.card(5, 0), 2);
        c.same("10 how often", x.card(5, 5), 1);
        c.same("10 not bent from level 0", x.card(2, 0), 4);
        places();
    }

    private static void theCards(CardCastle x) {
        int[] pair = {2, 5, 2, 1, 0, 0};
        int[] flat = {3, 4, 3, 1, 0, 0};
        int[] hand = {9, 9, 0, -1, -1, 0};
        for (int what = 0; what <= 5; what++) {
            c.same("10 card in a pair " + what, x.card(7, what), pair[what]);
            c.same("10 flat card " + what, x.card(4, what), flat[what]);
            c.same("10 card in the hand " + what, x.card(6, what), hand[what]);
        }
        c.same("10 column", x.card(3, 4), 1);
        c.noIndex("10 card 10", () -> x.card(10, 9));
        c.noIndex("10 card -1", () -> x.card(-1, 0));
        c.noArgument("10 what 6", () -> x.card(0, 6));
        c.noArgument("10 what -1", () -> x.card(0, -1));
    }

    private static void thePairs(CardCastle x) {
        int[] due = {2, 3, 40, 0, 36, 6, 30};
        for (int what = 0; what <= 6; what++) {
            c.same("11 pair " + what, x.pair(0, 1, what), due[what]);
            c.same("11 no pair " + what, x.pair(0, 2, what), -1);
        }
        c.same("11 load rounded up", x.pair(0, 0, 5), 7);
        c.noIndex("11 column 4", () -> x.pair(0, 4, 0));
        c.noIndex("11 column 3 at level 1", () -> x.pair(1, 3, 9));
        c.noIndex("11 level 3", () -> x.pair(3, 0, 0));
        c.noIndex("11 level -1", () -> x.pair(-1, 0, 0));
        c.noIndex("11 column -1", () -> x.pair(0, -1, 0));
        c.noIndex("11 extremes", () -> x.pair(MIN, MAX, 0));
        c.noIndex("11 extremes", () -> x.pair(0, MAX, 0));
        c.noArgument("11 what 7", () -> x.pair(0, 0, 7));
        c.noArgument("11 what 7 without a pair", () -> x.pair(0, 2, 7));
        c.noArgument("11 what -1", () -> x.pair(0, 0, -1));
        CardCastle y = Checks.loaded("table 2 1 9 0 0 0;card a 9 1;card b 8 1;lean 0 0 b a 20");
        c.same("11 the first card as told", y.pair(0, 0, 0), 1);
        c.same("11 strength at 20", y.pair(0, 0, 4), 34);
        y.turn(0, 0, 70);
        c.same("11 strength at 70", y.pair(0, 0, 4), 34);
        y.turn(0, 0, 46);
        c.same("11 strength rounded down", y.pair(0, 0, 4), 66);
    }

    private static void theFlats(CardCastle x) {
        int[] due = {4, 13, 7, 6};
        for (int what = 0; what <= 3; what++) {
            c.same("12 flat " + what, x.flat(1, 0, what), due[what]);
            c.same("12 no flat " + what, x.flat(1, 1, what), -1);
            c.same("12 on level 0 " + what, x.flat(0, 0, what), -1);
        }
        c.noIndex("12 column 3 at level 1", () -> x.flat(1, 3, 9));
        c.noArgument("12 what 4", () -> x.flat(1, 0, 4));
        c.noArgument("12 what -1 on level 0", () -> x.flat(0, 0, -1));
        CardCastle y = base();
        y.takeDown(1, 0);
        c.same("12 the load behind a change", y.flat(1, 0, 1), 4);
        y.undo();
        c.same("12 the load behind undo", y.flat(1, 0, 1), 13);
        y.fallsIfPulled(4);
        c.same("12 the load behind a trial", y.flat(1, 0, 1), 13);
        y.fallsIfPulled(4);
        c.same("23 the load behind a trial", y.onTable(1), 10);
        y.fallsIfPulled(4);
        c.same("25 the reserves behind a trial", y.meanReserve(), 83.0 / 3.0);
        y.fallsIfPulled(4);
        c.same("38 the load behind a trial", Checks.written(y, y.writePair(0, 0)), "a/45\\b 7:40");
    }

    private static void places() {
        CardCastle x = base();
        c.holds("16 on the table", x.canLean(0, 2));
        c.holds("16 not twice", !x.canLean(0, 0));
        c.holds("16 not in the air", !x.canLean(1, 1));
        c.holds("17 not twice", !x.canLay(1, 0));
        c.holds("17 not on one pair", !x.canLay(1, 1));
        c.holds("17 not on level 0", !x.canLay(0, 3));
        x.takeDown(1, 0);
        c.holds("16 on a flat card", x.canLean(1, 0));
        x.lift(1, 0);
        c.holds("17 on two pairs", x.canLay(1, 0));
        c.noIndex("16 no place", () -> x.canLean(1, 3));
        c.noIndex("17 no place", () -> x.canLay(2, 2));
        c.noIndex("17 no place", () -> x.canLay(3, 0));
        CardCastle y = Checks.loaded("table 3 3 20 0 0 0;card a 1 1;card b 1 1;lean 0 0 a b 45");
        c.holds("16 with nothing in the hand", y.canLean(0, 1));
    }

    // ---- promise 13 and section 3

    private static void falls() {
        CardCastle x = Checks.loaded(FALLING);
        c.same("13 settling of load", x.count(6), 3);
        int[][] due = {{0, 1, 0, 0, 2}, {0, 1, 0, 1, 2}, {0, 0, 0, 0, 0}};
        for (int index = 0; index < 3; index++) {
            for (int what = 0; what < 5; what++) {
                c.same("13 fall " + index + " " + what, x.fall(index, what), due[index][what]);
            }
        }
        c.noIndex("13 fall 3", () -> x.fall(3, 9));
        c.noIndex("13 fall -1", () -> x.fall(-1, 0));
        c.noArgument("13 part 5", () -> x.fall(0, 5));
        c.noArgument("13 part -1", () -> x.fall(0, -1));
        c.same("3 the stiffness is not below 1", x.card(2, 0), 1);
        c.same("3 and that does not count", x.card(2, 5), 0);
        CardCastle y = tall();
        y.tick(7);
        c.same("43 all that stands above", y.pull(2), 7);
        c.same("3 the order of falls", Checks.written(y, y.writeFalls()), "p1.1b f1.1b p2.0b f2.0b p1.0b f1.0b p0.1x");
    }

    /** Three pairs on the table, two above, one on the top; what falls first is told last. */
    private static CardCastle tall() {
        StringBuilder text = new StringBuilder("table 3 3 50 1 1 0");
        for (int card = 0; card < 15; card++) {
            text.append(";card ").append((char) ('a' + card)).append(" 9 1");
        }
        text.append(";lean 0 0 a b 45;lean 0 1 c d 45;lean 0 2 e f 45;lay 1 0 g;lay 1 1 h;");
        text.append("lean 1 0 i j 45;lean 1 1 k l 45;lay 2 0 m;lean 2 0 n o 45");
        return Checks.loaded(text.toString());
    }

    // ---- promises 18 to 28

    private static void looks() {
        CardCastle x = base();
        c.same("18 top", x.top(), 1);
        c.same("19 weakest", x.weakest(), 100);
        c.same("20 shakiest", x.shakiest(), 0);
        c.same("21 supported", x.supported(0, 0), 3);
        c.same("21 supported", x.supported(1, 0), 1);
        c.same("21 without a pair", x.supported(1, 1), 0);
        c.same("22 above", x.above(0, 1), 13);
        c.same("22 above the top", x.above(1, 0), 0);
        c.same("22 without a pair", x.above(0, 3), 0);
        c.same("23 onTable", x.onTable(0), 13);
        c.same("23 onTable", x.onTable(1), 10);
        c.same("23 without a pair", x.onTable(3), 0);
        c.noIndex("23 column 4", () -> x.onTable(4));
        c.noIndex("23 column -1", () -> x.onTable(-1));
        c.noIndex("21 no place", () -> x.supported(2, 2));
        c.noIndex("22 no place", () -> x.above(0, 4));
        c.same("24 weight", x.weight(), 23);
        c.same("25 meanReserve", x.meanReserve(), (33.0 + 30.0 + 20.0) / 3.0);
        c.same("26 builtShare", x.builtShare(), 3.0f / 9.0f);
        c.same("27 strengthOf", x.strengthOf(6, 8, 45), 40);
        c.same("27 strengthOf built ones", x.strengthOf(0, 7, 20), 14);
        c.noIndex("27 no such card", () -> x.strengthOf(0, 10, 99));
        c.noIndex("27 no such card", () -> x.strengthOf(-1, -1, 45));
        c.noIndex("27 no such first card", () -> x.strengthOf(10, 0, 45));
        c.noIndex("27 no such first card", () -> x.strengthOf(-1, 0, 45));
        c.noArgument("27 the same card", () -> x.strengthOf(1, 1, 45));
        c.noArgument("27 angle 19", () -> x.strengthOf(0, 1, 19));
        c.noArgument("27 angle 71", () -> x.strengthOf(0, 1, 71));
        c.same("28 stiffest", x.stiffest(), 609);
        c.same("3 looks change nothing", x.count(6), 0);
        tallLooks();
        emptyLooks();
    }

    private static void tallLooks() {
        CardCastle x = tall();
        c.same("18 top", x.top(), 2);
        c.same("19 of several the first", x.weakest(), 1);
        c.same("21 in the middle", x.supported(0, 1), 7);
        c.same("21 at the side", x.supported(0, 2), 5);
        c.same("22 in the middle", x.above(0, 1), 9);
        c.same("22 at the side", x.above(0, 2), 6);
        x.tremor(50, 0);
        c.same("20 the upper ones get more", x.shakiest(), 200);
    }

    private static void emptyLooks() {
        CardCastle x = Checks.loaded("table 3 2 9 0 0 0;card a 5 1;card b 5 1;card d 5 1");
        c.same("18 empty", x.top(), -1);
        c.same("19 empty", x.weakest(), -1);
        c.same("20 empty", x.shakiest(), -1);
        c.same("24 empty", x.weight(), 0);
        c.same("25 empty", x.meanReserve(), 0.0);
        c.same("26 empty", x.builtShare(), 0.0f);
        c.same("28 of several the smallest", x.stiffest(), 1);
        x.lean(0, 1, 2, 0, 45);
        c.same("28 one card", x.stiffest(), -1);
        c.same("20 calm", x.shakiest(), 1);
        CardCastle y = Checks.loaded("table 3 2 9 0 0 0;card a 1 1;card b 9 1;card d 1 1;card e 9 1");
        c.same("28 not the first one", y.stiffest(), 103);
    }

    // ---- promises 29 to 36

    private static void wouldBe() {
        CardCastle x = base();
        wouldShake(x);
        c.same("34 of a pair", x.fallsIfPulled(0), 3);
        c.same("34 a flat card", x.fallsIfPulled(4), 2);
        c.same("34 in the hand", x.fallsIfPulled(6), 0);
        c.noIndex("34 no such card", () -> x.fallsIfPulled(10));
        c.noIndex("34 no such card", () -> x.fallsIfPulled(-1));
        c.same("36 bestAngle", x.bestAngle(0, 1), 45);
        c.same("36 without a pair", x.bestAngle(0, 2), -1);
        c.noIndex("36 no place", () -> x.bestAngle(0, 4));
        CardCastle y = Checks.loaded("table 2 1 9 0 0 0;card a 1 1;card b 2 1;lean 0 0 a b 20");
        c.same("36 the strength at 45", y.bestAngle(0, 0), 45);
        x.pull(0);
        c.same("34 on the heap", x.fallsIfPulled(1), 0);
        c.same("3 nothing else fell", x.count(6), 3);
        safePlaces();
    }

    private static void wouldShake(CardCastle x) {
        // The pair f h (stiffness 5) at level 1: at column 0, (force - 4) * 2 / 5 > 20.
        c.same("30 leastForce", x.leastForce(0), 57);
        c.same("29 by one less", x.fallsBy(56, 0), 0);
        c.same("29 by that", x.fallsBy(57, 0), 1);
        c.same("31 worstColumn", x.worstColumn(57), 0);
        c.same("31 nothing falls", x.worstColumn(1), 0);
        c.same("33 at once", x.tremorsTo(57, 0), 1);
        c.same("33 by four", x.tremorsTo(20, 0), 4);
        c.same("33 never", x.tremorsTo(1, 0), -1);
        c.noArgument("29 force 0", () -> x.fallsBy(0, 0));
        c.noArgument("29 force 100", () -> x.fallsBy(100, 0));
        c.noArgument("29 column 4", () -> x.fallsBy(1, 4));
        c.noArgument("29 column -1", () -> x.fallsBy(1, -1));
        c.noArgument("30 column 4", () -> x.leastForce(4));
        c.noArgument("30 column -1", () -> x.leastForce(-1));
        c.noArgument("31 force 0", () -> x.worstColumn(0));
        c.noArgument("31 force 100", () -> x.worstColumn(100));
        c.noArgument("33 force 100", () -> x.tremorsTo(100, 0));
        c.noArgument("33 column 4", () -> x.tremorsTo(1, 4));
        c.same("32 calm", x.calmIn(), 0);
        c.same("3 nothing is changed", x.count(6) + x.count(11) + x.pair(1, 0, 3), 0);
        CardCastle y = Checks.loaded("table 2 1 50 0 0 0;card a 1 1;card b 1 1;lean 0 1 a b 45");
        c.same("33 the fiftieth is too few by 1", y.tremorsTo(3, 0), -1);
        y.tremor(2, 0);
        c.same("33 the fiftieth", y.tremorsTo(3, 0), 50);
        c.same("32 never", y.calmIn(), -1);
        CardCastle z = Checks.loaded("table 3 1 5 9 0 0;card a 1 1;card b 1 1;card d 1 1;card e 1 1;lean 0 1 a b 45;lean 0 2 d e 45");
        c.same("31 the column with the most", z.worstColumn(30), 1);
        c.same("31 of several the smallest", z.worstColumn(99), 0);
        c.same("30 with damping", z.leastForce(0), 30);
        edgesOfShaking();
        CardCastle stiff = Checks.loaded("table 2 1 99 9 0 0;card a 9 1;card b 9 1;lean 0 0 a b 45");
        c.same("30 nothing by 99", stiff.leastForce(0), -1);
    }

    private static void edgesOfShaking() {
        CardCastle x = Checks.loaded("table 2 1 1 9 1 0;card a 1 1;card b 1 1;lean 0 0 a b 45");
        x.tremor(2, 0);
        c.same("32 by ones", x.calmIn(), 1);
        x.tremor(1, 0);
        c.same("30 the next one may be weak", x.leastForce(0), 2);
        CardCastle y = Checks.loaded("table 2 1 98 9 7 0;card a 1 1;card b 1 1;lean 0 0 a b 45");
        y.tremor(98, 0);
        y.tremor(98, 0);
        c.same("32 rounded up to nothing", y.calmIn(), 14);
        c.same("30 by 99 and not by less", Checks.loaded("table 2 1 48 0 0 0;card a 1 1;card b 1 1;lean 0 0 a b 45").leastForce(0), 98);
        CardCastle z = Checks.loaded("table 2 1 10 0 0 0;card a 4 1;card b 5 1;lean 0 0 a b 45");
        c.same("30 exactly 99", z.leastForce(1), 99);
        CardCastle one = Checks.loaded("table 2 8 3 0 0 0;" + CARDS + ";lean 0 0 a b 45");
        one.tremor(30, 0);
        c.same("30 ten more", one.leastForce(0), 10);
        CardCastle two = Checks.loaded("table 2 1 1 0 0 0;card a 1 1;card b 1 1;lean 0 0 a b 45");
        two.tremor(3, 0);
        c.same("30 not by 1", two.leastForce(0), 2);
        c.same("47 with DAMP 0 everywhere", two.fallsBy(2, 1), 1);
        CardCastle soft = Checks.loaded("table 2 2 4 0 0 0;" + CARDS + ";card k 1 1;lean 0 0 a b 45;lean 0 1 c d 45;lay 1 0 j;lean 1 0 i k 45");
        soft.tremor(4, 0);
        c.same("30 already by 1", soft.leastForce(1), 1);
        slanted();
    }

    /** At level 1 the middle of a place lies between two columns. */
    private static void slanted() {
        CardCastle x = Checks.loaded("table 4 2 90 5 0 0;" + CARDS + ";lean 0 1 a b 45;lean 0 2 c d 45;lay 1 1 g;lean 1 1 i f 45");
        // 2 * 1 + 1 = 3: three from the column 0, one from the columns 1 and 2, three from the column 3.
        x.tremor(40, 0);
        c.same("4 level 1 at column 0", x.pair(1, 1, 3), 12);
        x.tremor(40, 1);
        c.same("4 level 1 at column 1", x.pair(1, 1, 3), 12 + 17);
        x.tremor(40, 2);
        c.same("4 level 1 at column 2", x.pair(1, 1, 3), 12 + 17 + 17);
        x.tremor(40, 3);
        c.same("4 level 1 at column 3", x.pair(1, 1, 3), 12 + 17 + 17 + 12);
    }

    private static void safePlaces() {
        String start = "table 4 2 9 0 0 0;card a 2 1;card b 2 1;card d 9 1;card e 9 1;card f 9 1;card g 9 1;card k 1 9;";
        CardCastle x = Checks.loaded(start + "lean 0 0 a b 45;lean 0 1 d e 45;lean 0 2 f g 45");
        // On the weak pair (16) the flat card leaves 11; beside it all of 16.
        c.same("35 safest", x.safest(6), 101);
        c.same("35 not in the hand", x.safest(0), -1);
        c.noIndex("35 no such card", () -> x.safest(7));
        c.noIndex("35 no such card", () -> x.safest(-1));
        x.lay(1, 1, 6);
        c.same("35 lies already", x.safest(6), -1);
        CardCastle y = Checks.loaded(start + "lean 0 0 d e 45;lean 0 1 f g 45");
        c.same("35 the only place", y.safest(6), 100);
        CardCastle z = Checks.loaded("table 3 2 9 0 0 0;card a 1 1;card b 1 1;card d 1 1;card e 1 1;"
            + "card k 1 9;lean 0 0 a b 20;lean 0 1 d e 20");
        c.same("35 something would fall", z.safest(4), -1);
        CardCastle best = Checks.loaded("table 5 2 9 0 0 0;card a 2 1;card b 2 1;card d 9 1;card e 9 1;card f 9 1;card g 9 1;"
            + "card k 1 9;card l 9 1;card m 9 1;card n 2 1;card o 3 1;"
            + "lean 0 0 a b 45;lean 0 1 d e 45;lean 0 2 f g 45;lean 0 3 l m 45;lean 0 4 n o 20");
        // The last pair has the strength 10: it is the weakest wherever the card lies, and at 103 it has 6 left.
        c.same("35 of several the first", best.safest(6), 100);
        c.same("27 the last pair", best.pair(0, 4, 6), 10);
        CardCastle none = base();
        c.same("35 no place left", none.safest(6), -1);
        c.same("35 nothing is changed", none.card(6, 2), 0);
    }

    // ---- promises 37 to 40

    private static void texts() {
        CardCastle x = base();
        c.noIndex("40 before the first text", () -> x.textByte(0));
        c.same("37 level 0", Checks.written(x, x.writeLevel(0)), "AA  ");
        c.same("37 level 1", Checks.written(x, x.writeLevel(1)), "A  ");
        c.same("37 level 2", Checks.written(x, x.writeLevel(2)), "  ");
        x.takeDown(1, 0);
        c.same("37 a flat card alone", Checks.written(x, x.writeLevel(1)), "_  ");
        c.noIndex("37 level 3", () -> x.writeLevel(3));
        c.noIndex("37 level -1", () -> x.writeLevel(-1));
        c.same("40 stays behind an exception", x.textByte(0), '_');
        c.noIndex("40 byte 3", () -> x.textByte(3));
        c.noIndex("40 byte -1", () -> x.textByte(-1));
        c.same("38 without a pair", Checks.written(x, x.writePair(0, 2)), "-");
        c.noIndex("40 the old text is gone", () -> x.textByte(1));
        c.same("38 writePair", Checks.written(x, x.writePair(0, 1)), "c/40\\d 2:36");
        c.noIndex("38 no place", () -> x.writePair(1, 3));
        x.undo();
        c.same("40 stays behind undo", x.textByte(4), '\\');
        c.same("39 no falls", x.writeFalls(), 0);
        c.noIndex("40 an empty text", () -> x.textByte(0));
        Checks.written(x, x.writeLevel(1));
        Checks.load(x, EMPTY);
        c.same("40 stays behind load", x.textByte(0), 'A');
        CardCastle y = Checks.loaded("table 2 8 9 0 0 0;card abcdef 9 1;card zzyxwv 9 1;lean 0 1 zzyxwv abcdef 20");
        c.same("37 a level without columns", y.writeLevel(2), 0);
        c.same("38 long names", Checks.written(y, y.writePair(0, 1)), "zzyxwv/20\\abcdef 0:36");
        CardCastle z = Checks.loaded(FALLING);
        c.same("39 writeFalls", Checks.written(z, z.writeFalls()), "p1.0b f1.0b p0.0l");
        z.tremor(12, 0);
        c.same("39 with a wobble", Checks.written(z, z.writeFalls()), "p0.1w p1.0b f1.0b p0.0l");
        manyFalls();
    }

    private static void manyFalls() {
        StringBuilder text = new StringBuilder("table 12 1 9 0 0 8");
        text.append(";card a 9 1;card b 9 1");
        CardCastle x = Checks.loaded(text.toString());
        for (int round = 0; round < 35; round++) {
            x.lean(0, round % 12, 0, 1, 45);
            x.pull(0);
            x.pickUp(1);
        }
        c.same("8 all are counted", x.count(6), 35);
        c.same("13 the latest", x.fall(0, 2), 34 % 12);
        c.same("13 the last that can be told", x.fall(29, 2), 5);
        c.noIndex("13 fall 30", () -> x.fall(30, 0));
        int bytes = x.writeFalls();
        // Of the columns of the rounds 5 to 34, five have two digits: 10 and 11 twice or thrice.
        String written = Checks.written(x, bytes);
        c.holds("39 thirty falls", written.startsWith("p0.10x p0.9x ") && written.endsWith(" p0.5x"));
        c.same("39 how many", written.split(" ").length, 30);
    }

    // ---- promises 41 and 42

    private static void building() {
        CardCastle x = Checks.loaded(EMPTY);
        c.same("41 lean", x.lean(0, 0, 1, 0, 45), 0);
        c.same("41 the first card", x.pair(0, 0, 0), 1);
        c.same("41 the wobble", x.pair(0, 0, 3), 0);
        c.noIndex("41 no place", () -> x.lean(0, 4, 99, 99, 0));
        c.noIndex("41 no place for cards of the hand", () -> x.lean(0, 4, 2, 3, 45));
        c.noIndex("41 no such card", () -> x.lean(0, 0, 10, 0, 45));
        c.noIndex("41 no such card", () -> x.lean(0, 0, 0, -1, 45));
        c.noArgument("41 built already", () -> x.lean(0, 0, 2, 3, 45));
        c.noArgument("41 in the air", () -> x.lean(1, 0, 2, 3, 45));
        c.noArgument("41 the same card", () -> x.lean(0, 1, 2, 2, 45));
        c.noArgument("41 not in the hand", () -> x.lean(0, 1, 0, 2, 45));
        c.noArgument("41 not in the hand", () -> x.lean(0, 1, 2, 0, 45));
        c.noArgument("41 angle 19", () -> x.lean(0, 1, 2, 3, 19));
        c.noArgument("41 angle 71", () -> x.lean(0, 1, 2, 3, 71));
        c.same("41 edges of the angle", x.lean(0, 1, 2, 3, 20), 0);
        c.same("41 edges of the angle", x.lean(0, 2, 8, 9, 70), 0);
        c.same("52 only what succeeds is a change", x.undoable(), 3);
        c.noIndex("42 no place", () -> x.lay(1, 3, 99));
        c.noIndex("42 no place for a card of the hand", () -> x.lay(1, 3, 4));
        c.noIndex("42 no such card", () -> x.lay(1, 0, 10));
        c.noArgument("42 level 0", () -> x.lay(0, 3, 4));
        c.noArgument("42 on one pair", () -> x.lay(1, 2, 4));
        c.noArgument("42 not in the hand", () -> x.lay(1, 0, 0));
        c.same("42 lay", x.lay(1, 0, 4), 0);
        c.noArgument("42 lies already", () -> x.lay(1, 0, 5));
        c.same("42 it is flat", x.card(4, 2), 3);
        overloading();
    }

    private static void overloading() {
        CardCastle x = Checks.loaded("table 2 2 5 0 0 0;card a 1 1;card b 1 1;card d 1 1;card e 1 1;card f 9 9;lean 0 0 a b 20;lean 0 1 d e 45");
        // The strengths are 4 and 8; of the load 9 the left pair gets 5, the right one 4.
        c.same("42 by its load", x.lay(1, 0, 4), 2);
        c.same("42 the cause", Checks.written(x, x.writeFalls()), "f1.0b p0.0l");
        CardCastle y = Checks.loaded("table 2 2 5 0 0 0;card a 1 2;card b 1 2;card d 1 9;card e 1 9;card f 9 7;lean 0 0 a b 20;lean 0 1 d e 20;lay 1 0 f");
        c.same("3 a load as great as the strength", y.count(6), 0);
        c.same("11 no reserve", y.pair(0, 0, 6), 0);
        CardCastle z = Checks.loaded("table 2 2 5 0 0 0;card a 2 1;card b 2 1;card d 2 1;card e 2 1;card f 9 9;card g 1 9;card h 1 9;"
            + "lean 0 0 a b 45;lean 0 1 d e 45;lay 1 0 f");
        // 9 + 9 + 9 = 27: 14 and 13, both not above 16.
        c.same("41 as great as they bear", z.lean(1, 0, 5, 6, 45), 0);
        c.same("49 a weaker angle", z.turn(0, 0, 20), 3);
        c.same("49 the cause", Checks.written(z, z.writeFalls()), "p1.0b f1.0b p0.0l");
        c.same("3 the stiffness behind", z.card(4, 0), 8);
    }

    // ---- promises 43 to 46, 50

    private static void takingAway() {
        CardCastle x = base();
        c.noArgument("43 in the hand", () -> x.pull(6));
        c.noIndex("43 no such card", () -> x.pull(10));
        c.noIndex("43 no such card", () -> x.pull(-1));
        c.same("43 the second card of a pair", x.pull(7), 1);
        c.same("43 goes into the hand", x.card(7, 2), 0);
        c.same("43 is not bent", x.card(7, 0), 2);
        c.same("43 the other one is", x.card(5, 0), 2);
        c.same("43 the cause", x.fall(0, 4), 3);
        c.noArgument("43 on the heap", () -> x.pull(5));
        c.noArgument("50 on the heap", () -> x.smooth(5));
        c.noArgument("46 in the hand", () -> x.pickUp(6));
        c.noArgument("46 in a pair", () -> x.pickUp(0));
        c.noIndex("46 no such card", () -> x.pickUp(10));
        c.same("46 pickUp", x.pickUp(5), 0);
        c.same("46 in the hand then", x.card(5, 2), 0);
        c.same("50 smooth", x.smooth(5), 3);
        c.same("50 how often it was bent", x.card(5, 5), 1);
        c.noArgument("50 not bent any more", () -> x.smooth(5));
        c.noArgument("50 never bent", () -> x.smooth(6));
        c.noArgument("50 in a pair", () -> x.smooth(0));
        c.noIndex("50 no such card", () -> x.smooth(-1));
        x.pull(0);
        c.same("46 how many are left", x.pickUp(1), 1);
        c.same("46 the rest moves up", x.onHeap(0), 4);
        takingDown();
    }

    private static void takingDown() {
        CardCastle x = base();
        c.noArgument("44 something lies on its upper right", () -> x.takeDown(0, 0));
        c.noArgument("44 something lies on its upper left", () -> x.takeDown(0, 1));
        c.noArgument("44 no pair", () -> x.takeDown(0, 2));
        c.noIndex("44 no place", () -> x.takeDown(2, 2));
        c.noArgument("45 a pair stands on it", () -> x.lift(1, 0));
        c.noArgument("45 no flat card", () -> x.lift(1, 1));
        c.noArgument("45 level 0", () -> x.lift(0, 0));
        c.noIndex("45 no place", () -> x.lift(0, 4));
        c.same("44 takeDown", x.takeDown(1, 0), 5);
        c.same("44 no fall", x.count(6), 0);
        c.same("44 not bent", x.card(5, 0), 3);
        c.same("44 the load is less", x.pair(0, 0, 5), 2);
        c.same("45 lift", x.lift(1, 0), 6);
        c.same("45 no fall", x.count(6), 0);
        c.same("45 no load", x.pair(0, 0, 5), 0);
        c.same("44 below", x.takeDown(0, 0), 8);
        c.same("14 by numbers", x.inHand(0), 0);
        c.same("24 weight", x.weight(), 4);
    }

    // ---- promises 47 to 49

    private static void shaking() {
        CardCastle x = base();
        c.noArgument("47 force 0", () -> x.tremor(0, 0));
        c.noArgument("47 force 100", () -> x.tremor(100, 0));
        c.noArgument("47 column 4", () -> x.tremor(1, 4));
        c.noArgument("47 column -1", () -> x.tremor(1, -1));
        c.same("47 a refused one is none", x.count(11), 0);
        c.same("47 tremor", x.tremor(20, 0), 0);
        // (20 - 0) / 10, (20 - 8) / 10, (20 - 4) * 2 / 5.
        c.same("47 at the column", x.pair(0, 0, 3), 2);
        c.same("47 one column off", x.pair(0, 1, 3), 1);
        c.same("47 a level higher", x.pair(1, 0, 3), 6);
        c.same("47 counted", x.count(11), 1);
        c.same("20 shakiest", x.shakiest(), 100);
        c.same("32 calmIn", x.calmIn(), 2);
        c.noArgument("48 no ticks", () -> x.tick(0));
        c.noArgument("48 101 ticks", () -> x.tick(101));
        c.same("48 tick", x.tick(1), 1);
        c.same("48 the wobble", x.pair(1, 0, 3), 1);
        c.same("48 not below 0", x.pair(0, 0, 3), 0);
        c.same("48 the time", x.count(5), 1);
        x.turn(1, 0, 46);
        c.same("49 the wobble stays", x.pair(1, 0, 3), 1);
        c.same("48 all calm", x.tick(1), 0);
        turning(x);
        farTremors();
        theGreatestTime();
    }

    private static void turning(CardCastle x) {
        c.noIndex("49 no place", () -> x.turn(0, 4, 99));
        c.noArgument("49 no pair", () -> x.turn(0, 2, 45));
        c.noArgument("49 angle 19", () -> x.turn(0, 0, 19));
        c.noArgument("49 angle 71", () -> x.turn(0, 0, 71));
        int before = x.undoable();
        c.same("49 the same angle", x.turn(0, 0, 45), 0);
        c.same("49 is a change", x.undoable(), before + 1);
        c.same("49 another one", x.turn(0, 0, 25), 0);
        c.same("49 the strength", x.pair(0, 0, 4), 24);
    }

    private static void farTremors() {
        CardCastle x = Checks.loaded("table 6 1 9 9 0 0;card a 1 1;card b 1 1;lean 0 5 a b 45");
        x.tremor(90, 0);
        c.same("4 no shake of 0", x.pair(0, 5, 3), 0);
        x.tremor(10, 0);
        c.same("4 no shake below 0", x.pair(0, 5, 3), 0);
        x.tremor(91, 0);
        c.same("4 rounded down", x.pair(0, 5, 3), 0);
        x.tremor(92, 0);
        c.same("4 a shake of 2", x.pair(0, 5, 3), 1);
        c.same("4 LIMIT is no fall", x.tremor(16, 5), 0);
        c.same("4 the wobble at LIMIT", x.pair(0, 5, 3), 9);
        c.same("4 above LIMIT", x.tremor(2, 5), 1);
        c.same("4 by its wobble", x.fall(0, 4), 1);
    }

    private static void theGreatestTime() {
        CardCastle x = base();
        for (int round = 0; round < 99; round++) {
            x.tick(100);
        }
        x.tick(99);
        c.same("48 the greatest time", x.count(5), 9999);
        c.noArgument("48 no greater time", () -> x.tick(1));
        c.same("51 a tick undone", x.undo(), 7);
        c.same("51 the time", x.count(5), 9900);
        c.noArgument("48 too many ticks", () -> x.tick(100));
        x.tick(2);
        c.same("53 the time of a state", x.save(0), 9902);
        x.pull(4);
        c.same("13 the time of a fall", x.fall(0, 0), 9902);
    }

    // ---- promises 51 and 52

    private static void undoing() {
        CardCastle x = base();
        c.noState("51 nothing to undo", () -> x.undo());
        x.pull(0);
        c.same("52 one", x.undoable(), 1);
        Checks.feed(x, "abc");
        c.same("51 undo", x.undo(), 0);
        c.same("51 the buffer stays", x.buffered(), 20);
        c.same("51 the pair is back", x.pair(0, 0, 0), 0);
        c.same("51 the falls are back", x.count(6) + x.count(10) + x.count(9), 0);
        c.same("51 the heap is back", x.count(2), 0);
        c.same("51 the stiffness is back", x.card(5, 0), 3);
        c.noIndex("51 the log is back", () -> x.fall(0, 0));
        x.tremor(5, 0);
        x.undo();
        c.same("51 the tremors are back", x.count(11), 0);
        for (int round = 1; round <= 10; round++) {
            x.tick(round);
            c.same("52 at most 8", x.undoable(), Math.min(round, 8));
        }
        c.same("48 the time", x.count(5), 55);
        int time = 55;
        for (int left = 7; left >= 0; left--) {
            c.same("51 undo", x.undo(), left);
            time -= left + 3;
            c.same("51 the latest first", x.count(5), time);
        }
        c.noState("51 the older ones are gone", () -> x.undo());
        x.tick(1);
        c.same("52 then", x.undoable(), 1);
        c.noArgument("3 a wrong text", () -> Checks.load(x, "x"));
        c.same("52 stays behind a wrong text", x.undoable(), 1);
        Checks.load(x, BASE);
        c.same("52 nothing behind load", x.undoable(), 0);
        eachIsAChange();
    }

    private static void eachIsAChange() {
        CardCastle x = base();
        x.pull(7);
        x.pickUp(5);
        x.smooth(5);
        x.lift(1, 0);
        x.takeDown(0, 1);
        x.tremor(1, 0);
        c.same("52 six changes", x.undoable(), 6);
        c.same("53 save is none", x.save(0) + x.undoable(), 6);
        x.undo();
        x.undo();
        c.same("51 takeDown", x.pair(0, 1, 1), 3);
        x.undo();
        c.same("51 lift", x.flat(1, 0, 0), 4);
        x.undo();
        c.same("51 smooth", x.card(5, 0), 2);
        x.undo();
        c.same("51 pickUp", x.onHeap(0), 5);
        x.undo();
        c.same("51 pull", x.pair(1, 0, 1), 7);
        x.lean(0, 2, 8, 9, 45);
        x.lay(1, 1, 6);
        x.turn(0, 2, 50);
        c.same("52 three changes", x.undoable(), 3);
        x.undo();
        c.same("51 turn", x.pair(0, 2, 2), 45);
        x.undo();
        c.same("51 lay", x.flat(1, 1, 0), -1);
        x.undo();
        c.same("51 lean", x.pair(0, 2, 0), -1);
    }

    // ---- promises 53 and 54

    private static void saving() {
        CardCastle x = base();
        c.noIndex("53 slot 2", () -> x.save(2));
        c.noIndex("53 slot -1", () -> x.save(-1));
        c.noIndex("54 slot 2", () -> x.restore(2));
        c.noIndex("54 slot -1", () -> x.restore(-1));
        c.noState("54 nothing saved", () -> x.restore(0));
        x.tick(4);
        x.tremor(20, 0);
        c.same("53 save", x.save(1), 4);
        c.noState("54 the other slot", () -> x.restore(0));
        x.pull(0);
        x.tick(5);
        c.same("53 another one", x.save(0), 9);
        c.same("54 restore", x.restore(1), 4);
        c.same("54 nothing can be undone", x.undoable(), 0);
        c.same("54 the pair", x.pair(0, 0, 1), 1);
        c.same("54 the wobble", x.pair(1, 0, 3), 6);
        c.same("54 the falls", x.count(6), 0);
        c.same("54 the tremors", x.count(11), 1);
        c.same("54 the other state", x.restore(0), 9);
        c.same("54 its falls", x.count(6), 3);
        c.same("54 it stays saved", x.restore(1), 4);
        x.tick(1);
        c.same("54 it stays as it was", x.restore(1), 4);
        x.tick(2);
        x.save(1);
        c.same("53 in place of what was saved", x.restore(1), 6);
        c.noArgument("3 a wrong text", () -> Checks.load(x, "x"));
        c.same("54 behind a wrong text", x.restore(1), 6);
        Checks.load(x, BASE);
        c.noState("54 not behind load", () -> x.restore(1));
    }

    /** Each part of the state comes back by undo and by restore, and is new behind load. */
    private static void stateBrought() {
        CardCastle x = base();
        x.pull(7);
        x.tremor(20, 0);
        x.tick(1);
        x.save(0);
        String before = Told.castle(x);
        x.pickUp(5);
        x.smooth(5);
        x.lift(1, 0);
        x.takeDown(0, 0);
        x.lean(0, 3, 0, 5, 30);
        x.tremor(99, 3);
        x.pull(2);
        x.tick(2);
        c.same("52 eight changes", x.undoable(), 8);
        c.holds("41 all is different", !before.equals(Told.castle(x)));
        for (int change = 0; change < 8; change++) {
            x.undo();
        }
        c.same("51 all is back", Told.castle(x), before);
        x.tremor(99, 0);
        x.tremor(99, 0);
        c.same("54 restore", x.restore(0), 1);
        c.same("54 all is back", Told.castle(x), before);
        String fresh = Told.castle(base());
        Checks.load(x, BASE);
        c.same("3 all is new behind load", Told.castle(x), fresh);
        answersBehindFalls();
    }

    private static void answersBehindFalls() {
        CardCastle x = base();
        c.same("43 pull", x.pull(4), 2);
        c.same("34 only its own falls", x.fallsIfPulled(0), 1);
        c.same("29 only its own falls", x.fallsBy(99, 0), 0);
        c.same("21 only its own falls", x.supported(0, 1), 1);
        c.same("43 only its own falls", x.pull(0), 1);
        c.same("41 only its own falls", x.lean(0, 0, 4, 6, 45), 0);
        c.same("49 only its own falls", x.turn(0, 0, 46), 0);
        c.same("47 only its own falls", x.tremor(1, 0), 0);
        c.same("47 the wobble of the old pair is gone", x.pair(0, 0, 3), 0);
        x.tremor(40, 0);
        c.same("47 (40 - 0) / 12", x.pair(0, 0, 3), 3);
        x.takeDown(0, 0);
        x.lean(0, 0, 4, 6, 45);
        c.same("41 a wobble of 0 at first", x.pair(0, 0, 3), 0);
    }

    // ---- section 7: no text was loaded

    private static void withoutText() {
        CardCastle x = new CardCastle();
        Checks.Call[] calls = {
            () -> x.find(-1), () -> x.count(99), () -> x.setting(99), () -> x.card(-1, 9), () -> x.pair(-1, 0, 9),
            () -> x.flat(-1, 0, 9), () -> x.fall(-1, 9), () -> x.inHand(-1), () -> x.onHeap(-1),
            () -> x.canLean(-1, 0), () -> x.canLay(-1, 0), () -> x.top(), () -> x.weakest(), () -> x.shakiest(),
            () -> x.supported(-1, 0), () -> x.above(-1, 0), () -> x.onTable(-1), () -> x.weight(),
            () -> x.meanReserve(), () -> x.builtShare(), () -> x.strengthOf(-1, -1, 0), () -> x.stiffest(),
            () -> x.fallsBy(0, -1), () -> x.leastForce(-1), () -> x.worstColumn(0), () -> x.calmIn(),
            () -> x.tremorsTo(0, -1), () -> x.fallsIfPulled(-1), () -> x.safest(-1), () -> x.bestAngle(-1, 0),
            () -> x.writeLevel(-1), () -> x.writePair(-1, 0), () -> x.writeFalls(), () -> x.lean(-1, 0, 0, 0, 0),
            () -> x.lay(-1, 0, 0), () -> x.pull(-1), () -> x.takeDown(-1, 0), () -> x.lift(-1, 0),
            () -> x.pickUp(-1), () -> x.tremor(0, 0), () -> x.tick(0), () -> x.turn(-1, 0, 0), () -> x.smooth(-1),
            () -> x.undo(), () -> x.save(2), () -> x.restore(0)
        };
        for (int call = 0; call < calls.length; call++) {
            c.noState("7 without a text, call " + call, calls[call]);
        }
        c.noIndex("54 the slot comes first", () -> x.restore(2));
        c.noIndex("40 textByte", () -> x.textByte(0));
    }
}
