/**
 * The boundary cases of the input: the buffer (promises 1, 2 and 6), load and
 * its errors (promises 3 to 5 and section 5), and find (promise 7).
 */
public final class TextEdgeTest {
    private static final Checks c = new Checks();

    private static final int MIN = Integer.MIN_VALUE;
    private static final int MAX = Integer.MAX_VALUE;

    private static final String[] SETTINGS = {"WIDE", "LEVELS", "LIMIT", "DAMP", "CALM", "BEND"};
    private static final int[] LEAST = {2, 1, 1, 0, 0, 0};
    private static final int[] MOST = {12, 8, 99, 9, 20, 8};

    // Eight cards and a castle of three columns and three levels, nothing built yet.
    private static final String START = Checks.deck("3 3 9 0 0 0", 8, 5, 1) + ";";

    public static void main(String[] args) {
        bufferEdges();
        appendKeepsAllBits();
        loadsNumbersOfBytes();
        settingsInAndOut();
        settingsThatAreNotThere();
        cardLinesInAndOut();
        leanLinesInAndOut();
        layLinesInAndOut();
        levelsWithoutColumns();
        everyByteBehindANumber();
        everyByteBehindAWord();
        everyByteBeforeALine();
        runsOfLetters();
        runsOfDigits();
        blanks();
        namesThatAreQuoted();
        namesThatAreTold();
        cardsThatAreNone();
        cardsThatAreNotInTheHand();
        fortyCards();
        whereNothingCanBeBuilt();
        theSmallestCode();
        theFirstToken();
        linesThatAreNotComplete();
        firstWords();
        settlesBehindTheText();
        loadAfterLoad();
        latestErrorIsTold();
        findEdges();
        findOfNoName();
        c.end("TextEdgeTest");
    }

    private static void fails(String what, String text, int code, int position) {
        CardCastle x = new CardCastle();
        c.noArgument(what + ": load of " + text, () -> Checks.load(x, text));
        c.same(what + ": parseError of " + text, x.parseError(), code);
        c.same(what + ": errorPosition of " + text, x.errorPosition(), position);
        c.same(what + ": the buffer behind " + text, x.buffered(), 0);
    }

    private static void failsBehind(String what, String start, String rest, int code, int position) {
        fails(what, start + rest, code, start.length() + position);
    }

    private static CardCastle loads(String what, String text) {
        CardCastle x = new CardCastle();
        int wrong = 0;
        try {
            Checks.load(x, text);
        } catch (IllegalArgumentException e) {
            wrong = x.parseError();
        }
        c.same(what + ": load of " + text, wrong, 0);
        c.same(what + ": no error in " + text, x.errorPosition(), -1);
        return x;
    }

    // ---- the buffer

    /** The input buffer holds at most 900 bytes; NONE if there would be more, then nothing is appended. */
    private static void bufferEdges() {
        CardCastle x = new CardCastle();
        c.same("1 an empty buffer", x.buffered(), 0);
        c.noArgument("3 no bytes at all", () -> x.load(0));
        c.same("5 at the end of no bytes", x.errorPosition(), 0);
        StringBuilder text = new StringBuilder("table 2 1 1 0 0 0");
        while (text.length() < 879) {
            text.append(' ');
        }
        text.append(";card abcdef 7 3     ");
        c.same("2 a text of 900 bytes", text.length(), 900);
        Checks.feed(x, text.substring(0, 880));
        c.same("6 one call before the end", x.buffered(), 880);
        c.same("2 up to the 900th byte", x.append(0x63617264, 0x20616263, 0x64656620, 0x37203320, 0x20202020), 900);
        c.same("2 one call more", x.append(0x3b3b3b3b, 0x3b3b3b3b, 0x3b3b3b3b, 0x3b3b3b3b, 0x3b3b3b3b), -1);
        c.same("2 nothing is appended", x.buffered(), 900);
        c.same("2 and again", x.append(0, 0, 0, 0, 0), -1);
        c.same("3 the bytes are as they were", x.load(900), 1);
        c.same("3 the last of them", x.card(0, 1), 3);
        c.same("6 behind load", x.buffered(), 0);
        c.same("2 then there is room", x.append(0, 0, 0, 0, 0), 20);
    }

    /** The four bytes of each argument in order, the most significant byte first. */
    private static void appendKeepsAllBits() {
        for (int at = 0; at < 20; at++) {
            int[] words = {0x20202020, 0x20202020, 0x20202020, 0x20202020, 0x20202020};
            int shift = 24 - 8 * (at % 4);
            words[at / 4] ^= (0x20 ^ 0xff) << shift;
            CardCastle x = new CardCastle();
            x.append(words[0], words[1], words[2], words[3], words[4]);
            c.noArgument("2 a byte of 255", () -> x.load(20));
            c.same("2 byte " + at + " of a call", x.errorPosition(), at);
        }
    }

    /** Parses the first n bytes: not a negative number of them, and not more than there are. */
    private static void loadsNumbersOfBytes() {
        CardCastle x = new CardCastle();
        c.noIndex("3 one of no bytes", () -> x.load(1));
        c.noIndex("3 -1 of no bytes", () -> x.load(-1));
        Checks.feed(x, "table 2 1 1 0 0 0;;;");
        c.noIndex("3 -1", () -> x.load(-1));
        c.noIndex("3 one too many", () -> x.load(21));
        c.noIndex("3 the least int", () -> x.load(MIN));
        c.noIndex("3 the greatest int", () -> x.load(MAX));
        c.same("3 the buffer stays", x.buffered(), 20);
        c.same("4 stays", x.parseError(), 0);
        c.same("5 stays", x.errorPosition(), -1);
        c.same("3 no cards", x.load(17), 0);
        c.same("3 empties the buffer of all bytes", x.buffered(), 0);
        Checks.feed(x, "table 2 1 1 0 0 0;;;");
        c.noArgument("3 all bytes", () -> x.load(20));
        c.same("5 the first one behind the semicolon", x.errorPosition(), 18);
        c.noIndex("3 no bytes are left", () -> x.load(1));
        c.same("4 stays behind that", x.parseError(), 1);
        c.same("5 stays behind that", x.errorPosition(), 18);
        Checks.feed(x, "table 2 1 1 0 0 0;;;");
        c.noArgument("3 none of 20 bytes", () -> x.load(0));
        c.same("5 the number of bytes that are parsed", x.errorPosition(), 0);
        c.same("3 the others are gone, too", x.buffered(), 0);
        Checks.feed(x, "table 2 1 1 0 0 0");
        c.noArgument("3 a word that is cut off", () -> x.load(3));
        c.same("5 the word", x.errorPosition(), 0);
        Checks.feed(x, "table 2 1 1 0 0 0");
        c.noArgument("3 a word that lacks its last letter", () -> x.load(4));
        c.same("5 the word", x.errorPosition(), 0);
        Checks.feed(x, "table 2 1 1 0 0 08");
        c.same("3 a number of which only the first digit is parsed", x.load(17), 0);
        c.same("9 that digit", x.setting(5), 0);
        Checks.feed(x, "table 2 1 1 0 0 0999");
        c.same("3 the four digits are not parsed", x.load(17), 0);
        Checks.feed(x, "table 2 1 1 0 0 0");
        c.noArgument("3 cut off before a number", () -> x.load(16));
        c.same("5 the number of bytes that are parsed", x.errorPosition(), 16);
    }

    // ---- the bounds of the numbers

    private static String table(int what, String number) {
        StringBuilder text = new StringBuilder("table");
        for (int setting = 0; setting < 6; setting++) {
            text.append(' ').append(setting == what ? number : "2");
        }
        return text.toString();
    }

    /** 2: a number out of its bounds; each setting at both edges, and one beyond. */
    private static void settingsInAndOut() {
        for (int what = 0; what < 6; what++) {
            int position = 6 + 2 * what;
            c.same(SETTINGS[what] + " least", loads("9", table(what, "" + LEAST[what])).setting(what), LEAST[what]);
            c.same(SETTINGS[what] + " most", loads("9", table(what, "" + MOST[what])).setting(what), MOST[what]);
            if (LEAST[what] > 0) {
                fails(SETTINGS[what], table(what, "" + (LEAST[what] - 1)), 2, position);
            }
            fails(SETTINGS[what], table(what, "" + (MOST[what] + 1)), 2, position);
            fails(SETTINGS[what], table(what, "999"), 2, position);
        }
    }

    /** 1: a token that the grammar does not allow here, or the end where a line is not complete. */
    private static void settingsThatAreNotThere() {
        for (int what = 0; what < 6; what++) {
            int position = 6 + 2 * what;
            String start = table(what, "").substring(0, position - 1);
            fails(SETTINGS[what] + " missing", start, 1, position - 1);
            fails(SETTINGS[what] + " missing behind blanks", start + "   ", 1, position + 2);
            fails(SETTINGS[what] + " a word", start + " two 2 2 2 2 2", 1, position);
            fails(SETTINGS[what] + " a semicolon", start + " ;", 1, position);
            fails(SETTINGS[what] + " four digits", start + " 0002", 1, position);
            fails(SETTINGS[what] + " no token", start + " -1", 1, position);
        }
        fails("a seventh number", "table 2 2 2 2 2 2 2", 1, 18);
    }

    /** STIFFNESS and WEIGHT are 1 to 9. */
    private static void cardLinesInAndOut() {
        String table = "table 2 1 1 0 0 0;";
        for (int value = 1; value <= 9; value += 8) {
            CardCastle x = loads("10", table + "card a " + value + " 5;card b 5 " + value);
            c.same("10 STIFFNESS " + value, x.card(0, 0), value);
            c.same("10 WEIGHT " + value, x.card(1, 1), value);
        }
        failsBehind("STIFFNESS 0", table, "card a 0 5", 2, 7);
        failsBehind("STIFFNESS 10", table, "card a 10 5", 2, 7);
        failsBehind("STIFFNESS, four digits", table, "card a 0005 5", 1, 7);
        failsBehind("no STIFFNESS", table, "card a a 5", 1, 7);
        failsBehind("WEIGHT 0", table, "card a 5 0", 2, 9);
        failsBehind("WEIGHT 10", table, "card a 5 10", 2, 9);
        failsBehind("WEIGHT, four digits", table, "card a 5 0005", 1, 9);
        failsBehind("no WEIGHT", table, "card a 5 a", 1, 9);
    }

    /** LEVEL 0 to LEVELS less 1, COLUMN a column of that level, an angle of 20 to 70. */
    private static void leanLinesInAndOut() {
        c.same("LEVEL 0, COLUMN 0", loads("5", START + "lean 0 0 a b 20").pair(0, 0, 2), 20);
        c.same("LEVEL 0, COLUMN 2", loads("5", START + "lean 0 2 a b 70").pair(0, 2, 2), 70);
        String two = START + "lean 0 1 a b 45;lean 0 2 c d 45;lay 1 1 e;";
        c.same("LEVEL 1, COLUMN 1", loads("5", two + "lean 1 1 f g 45").pair(1, 1, 0), 5);
        failsBehind("LEVEL 2, nothing below", START, "lean 2 0", 5, 7);
        failsBehind("LEVEL 3", START, "lean 3 0", 2, 5);
        failsBehind("LEVEL 999", START, "lean 999 0", 2, 5);
        failsBehind("COLUMN 3 of level 0", START, "lean 0 3", 2, 7);
        failsBehind("COLUMN 2 of level 1", START, "lean 1 2", 2, 7);
        failsBehind("COLUMN 1 of level 2", START, "lean 2 1", 2, 7);
        failsBehind("an angle of 19", START, "lean 0 0 a b 19", 2, 13);
        failsBehind("an angle of 71", START, "lean 0 0 a b 71", 2, 13);
        failsBehind("an angle of 0", START, "lean 0 0 a b 0", 2, 13);
    }

    /** LEVEL 1 to LEVELS less 1 of a lay line. */
    private static void layLinesInAndOut() {
        String four = START + "lean 0 0 a b 45;lean 0 1 c d 45;";
        c.same("LEVEL 1, COLUMN 0", loads("5", four + "lay 1 0 e").flat(1, 0, 0), 4);
        failsBehind("LEVEL 0", four, "lay 0 2", 2, 4);
        failsBehind("LEVEL 2, nothing below", four, "lay 2 0", 5, 6);
        failsBehind("LEVEL 3", four, "lay 3 0", 2, 4);
        failsBehind("COLUMN 2 of level 1", four, "lay 1 2", 2, 6);
        failsBehind("COLUMN 1 of level 2", four, "lay 2 1", 2, 6);
        fails("no level to lay on", "table 2 1 1 0 0 0;lay 1 0", 2, 22);
        CardCastle high = loads("5", "table 3 3 9 0 0 0;card a 9 1;card b 9 1;card c 9 1;card d 9 1;card e 9 1;card f 9 1;"
            + "card g 9 1;card h 9 1;card i 9 1;card j 9 1;card k 9 1;card l 9 1;card m 9 1;"
            + "lean 0 0 a b 45;lean 0 1 c d 45;lean 0 2 e f 45;lay 1 0 g;lay 1 1 h;lean 1 0 i j 45;lean 1 1 k l 45;lay 2 0 m");
        c.same("LEVEL 2, the highest", high.flat(2, 0, 0), 12);
    }

    /** 2: a COLUMN of a level without columns, too. */
    private static void levelsWithoutColumns() {
        String table = "table 2 8 1 0 0 0;card a 1 1;";
        failsBehind("the last level with a column", table, "lean 1 0", 5, 7);
        failsBehind("one column too many", table, "lean 1 1", 2, 7);
        failsBehind("the first level without columns", table, "lean 2 0", 2, 7);
        failsBehind("the highest level", table, "lean 7 0", 2, 7);
        failsBehind("a level that is none", table, "lean 8 0", 2, 5);
        failsBehind("a lay line", table, "lay 2 0", 2, 6);
        failsBehind("a lay line", table, "lay 7 0", 2, 6);
        failsBehind("a word is no COLUMN there, either", table, "lean 7 a", 1, 7);
    }

    // ---- bytes and tokens

    /** Blanks (byte 32) only separate tokens; a byte that starts no token is an error. */
    private static void everyByteBehindANumber() {
        for (int value = 0; value < 256; value++) {
            String text = "table 2 1 1 0 0 0" + (char) value;
            String what = "byte " + value + " behind a number";
            if (value == ' ' || value >= '0' && value <= '8') {
                c.same(what, loads(what, text).setting(5), value == ' ' ? 0 : value - '0');
            } else if (value == '9') {
                fails(what, text, 2, 16);
            } else {
                fails(what, text, 1, value == ';' ? 18 : 17);
            }
        }
    }

    /** A run of letters ends at the first byte that is not a lower-case letter. */
    private static void everyByteBehindAWord() {
        String start = "table 2 1 1 0 0 0;card abc";
        for (int value = 0; value < 256; value++) {
            String what = "byte " + value + " behind a word";
            String text = start + (char) value + " 5 5";
            if (value == ' ' || value >= 'a' && value <= 'z') {
                loads(what, text);
            } else if (value >= '0' && value <= '9') {
                fails(what, text, value == '0' ? 2 : 1, value == '0' ? 26 : 30);
            } else {
                fails(what, text, 1, 26);
            }
        }
    }

    private static void everyByteBeforeALine() {
        String start = "table 2 1 1 0 0 0;";
        for (int value = 0; value < 256; value++) {
            fails("byte " + value + " where a line starts", start + (char) value, 1, value == ' ' ? 19 : 18);
        }
    }

    /** Words are 1 to 6 lower-case letters; a word of 7 or more letters is an error. */
    private static void runsOfLetters() {
        String start = "table 2 1 1 0 0 0;";
        loads("one letter", start + "card a 5 5");
        loads("six letters", start + "card zzzzzz 5 5");
        failsBehind("seven letters", start, "card zzzzzzz 5 5", 1, 5);
        failsBehind("many letters", start, "card zzzzzzzzzzzzzzzzzzzzzzz 5 5", 1, 5);
        failsBehind("a capital", start, "card A 5 5", 1, 5);
        failsBehind("a capital behind letters", start, "card aA 5 5", 1, 6);
        failsBehind("seven letters at the start of a line", start, "cardcard", 1, 0);
        fails("seven letters at the start", "tablexx 2 1 1 0 0 0", 1, 0);
        failsBehind("seven letters for a CARD", START, "lean 0 0 abcdefg b 45", 1, 9);
    }

    /** Numbers are 1 to 3 digits; leading zeros count as digits. */
    private static void runsOfDigits() {
        c.same("one digit", loads("5", "table 2 1 9 0 0 0").setting(2), 9);
        c.same("two digits", loads("5", "table 02 1 09 0 0 0").setting(2), 9);
        c.same("three digits", loads("5", "table 002 001 099 000 000 000").setting(2), 99);
        fails("four digits", "table 0002 1 9 0 0 0", 1, 6);
        fails("four digits", "table 2 1 9 0 0 0000", 1, 16);
        fails("many digits", "table 2 1 99999999999999999999 0 0 0", 1, 10);
        fails("a sign", "table +2 1 9 0 0 0", 1, 6);
        fails("a run ends at a letter", "table 2a1 9 0 0 0", 1, 7);
        fails("a run ends at a point", "table 2.1 9 0 0 0", 1, 7);
    }

    private static void blanks() {
        CardCastle x = loads("blanks before and behind", "   table  2   1 1 0 0 0  ;  card  a 5  5   ");
        c.same("5 blanks only separate", x.count(0), 1);
        CardCastle y = loads("no blanks where none is needed", "table2 1 1 0 0 0;card a5 4;card b3 2;lean0 0a b45");
        c.same("5 letters and digits are apart", y.card(0, 0), 5);
        fails("cardb is one word", "table 2 1 1 0 0 0;cardb 3 2", 1, 18);
        fails("two names in one word", "table 2 1 1 0 0 0;card a 5 4;card b 5 4;lean 0 0ab 45", 3, 48);
        fails("a tab", "table 2 1 1 0 0 0;\tcard a 5 5", 1, 18);
        fails("the end of a line", "table 2 1 1 0 0 0;card a 5 5\n", 1, 28);
        fails("only blanks", "     ", 1, 5);
        fails("blanks at the end of a line that is not complete", "table 2 1 1 0 0 0;card a 5   ", 1, 29);
        fails("no blank between numbers", "table 21 1 0 0 0 0", 2, 6);
    }

    // ---- names and cards

    /** NAME is any word (also one that is quoted here). */
    private static void namesThatAreQuoted() {
        CardCastle x = loads("quoted words", "table 2 2 9 0 0 0;card table 1 1;card card 2 1;card lean 3 1;card lay 4 1;"
            + "card a 5 1;lean 0 0 table card 45;lean 0 1 lean lay 45;lay 1 0 a");
        c.same("5 table", x.pair(0, 0, 0), 0);
        c.same("5 card", x.pair(0, 0, 1), 1);
        c.same("5 lean", x.pair(0, 1, 0), 2);
        c.same("5 lay", x.pair(0, 1, 1), 3);
    }

    /** 3: a NAME that is told already. */
    private static void namesThatAreTold() {
        String start = "table 2 1 1 0 0 0;card ab 5 5;card b 5 5;";
        failsBehind("the first one again", start, "card ab 5 5", 3, 5);
        failsBehind("the latest one again", start, "card b 5 5", 3, 5);
        failsBehind("again at the end of the text", start, "card b", 3, 5);
        c.same("5 the start of another one", loads("5", start + "card a 5 5").count(0), 3);
        c.same("5 a longer one", loads("5", start + "card abb 5 5").count(0), 3);
        c.same("5 the other way round", loads("5", start + "card ba 5 5").count(0), 3);
        fails("a card in a pair has its name still", "table 2 1 1 0 0 0;card a 5 5;card b 5 5;lean 0 0 a b 45;card a", 3, 61);
    }

    /** 3: a CARD that is none; CARD is the NAME of an earlier card line. */
    private static void cardsThatAreNone() {
        failsBehind("the first CARD", START, "lean 0 0 x b 45", 3, 9);
        failsBehind("the second CARD", START, "lean 0 0 a x 45", 3, 11);
        failsBehind("a CARD that is told later", START, "lean 0 0 a x 45;card x 5 5", 3, 11);
        failsBehind("a CARD of a lay line", START, "lean 0 0 a b 45;lean 0 1 c d 45;lay 1 0 x", 3, 40);
        failsBehind("a number", START, "lean 0 0 1 b 45", 1, 9);
        failsBehind("a number", START, "lean 0 0 a 1 45", 1, 11);
        failsBehind("a semicolon", START, "lean 0 0 a;", 1, 10);
        fails("no cards at all", "table 2 1 1 0 0 0;lean 0 0 a", 3, 27);
        c.same("a CARD that was told just before", loads("5", START + "card x 5 5;lean 0 0 a x 45").pair(0, 0, 1), 8);
    }

    /** 3: a CARD that is not in the hand (also the second CARD of a lean line if it is the first one). */
    private static void cardsThatAreNotInTheHand() {
        String start = START + "lean 0 0 a b 45;lean 0 1 c d 45;lay 1 0 e;";
        failsBehind("the first card of a pair", start, "lean 0 2 a f 45", 3, 9);
        failsBehind("the second card of a pair", start, "lean 0 2 b f 45", 3, 9);
        failsBehind("a flat card", start, "lean 0 2 e f 45", 3, 9);
        failsBehind("the second CARD is in a pair", start, "lean 0 2 f d 45", 3, 11);
        failsBehind("the second CARD is flat", start, "lean 0 2 f e 45", 3, 11);
        failsBehind("the second CARD is the first one", start, "lean 0 2 f f 45", 3, 11);
        failsBehind("a CARD of a lay line is in a pair", START + "lean 0 0 a b 45;lean 0 1 c d 45;", "lay 1 0 c", 3, 8);
        failsBehind("a CARD of a lay line is flat", START + "lean 0 0 a b 45;lean 0 1 c d 45;lean 0 2 f g 45;lay 1 0 e;", "lay 1 1 e", 3, 8);
        loads("two that are in the hand", start + "lean 0 2 f g 45");
    }

    /** There are at most 40 cards; 4: the first word of a 41st card. */
    private static void fortyCards() {
        String forty = Checks.deck("2 2 9 0 0 0", 40, 5, 1);
        String more = Checks.deck("2 2 9 0 0 0", 39, 5, 1);
        CardCastle x = loads("forty cards", forty);
        c.same("3 forty", x.count(0), 40);
        c.same("1 all of them are in the hand", x.count(1), 40);
        c.same("10 the last one", x.card(39, 0), 5);
        failsBehind("a 41st card", forty, ";card xx 5 5", 4, 1);
        failsBehind("a 41st card behind blanks", forty, ";  card xx 5 5", 4, 3);
        failsBehind("only its first word", forty, ";card", 4, 1);
        failsBehind("its first word before another error", forty, ";card 5", 4, 1);
        failsBehind("its first word before a name that is told", forty, ";card a", 4, 1);
        failsBehind("not the word", forty, ";cards", 1, 1);
        failsBehind("nothing behind the semicolon", forty, ";", 1, 1);
        failsBehind("lines between", more, ";lean 0 0 a b 45;card xx 5 5;lean 0 1 c d 45;card yy 5 5", 4, 45);
        c.same("5 other lines behind 40 cards", loads("5", forty + ";lean 0 0 a b 45;lean 0 1 c d 45;lay 1 0 an").count(4), 1);
    }

    // ---- errors of building, and which error it is

    /** 5: the COLUMN of a lean line or a lay line if it cannot be built there. */
    private static void whereNothingCanBeBuilt() {
        String start = START + "lean 0 0 a b 45;";
        failsBehind("a pair is there", start, "lean 0 0 c d 45", 5, 7);
        failsBehind("no flat card is there", start, "lean 1 0 c d 45", 5, 7);
        failsBehind("the right pair is missing", start, "lay 1 0 c", 5, 6);
        failsBehind("the left pair is missing", START + "lean 0 1 a b 45;", "lay 1 0 c", 5, 6);
        failsBehind("both pairs are missing", start, "lay 1 1 c", 5, 6);
        String laid = start + "lean 0 1 c d 45;lay 1 0 e;";
        failsBehind("a flat card is there", laid, "lay 1 0 f", 5, 6);
        failsBehind("a pair is there on a flat card", laid + "lean 1 0 f g 45;", "lean 1 0 h a 45", 5, 7);
        failsBehind("a flat card is under a pair", laid + "lean 1 0 f g 45;", "lay 1 0 h", 5, 6);
        c.same("it can be built", loads("5", laid + "lean 1 0 f g 45").count(3), 3);
    }

    /** If several errors apply to a token, the smallest code is reported. */
    private static void theSmallestCode() {
        failsBehind("1 before 2", START, "lean 0 9999", 1, 7);
        failsBehind("1 before 2", START, "lean 9999", 1, 5);
        failsBehind("1 before 3", START, "card aaaaaaa", 1, 5);
        failsBehind("1 before 3", START, "lean 0 0 aaaaaaa", 1, 9);
        failsBehind("1 before 5", START, "lean 1 0000", 1, 7);
        failsBehind("1 before 5", START, "lean 1 a", 1, 7);
        failsBehind("2 before 5", START, "lean 1 2", 2, 7);
        failsBehind("2 before 5", START, "lay 1 2", 2, 6);
        failsBehind("1 before 4", Checks.deck("2 2 9 0 0 0", 40, 5, 1), ";cardcard", 1, 1);
    }

    /** Parsing stops at the first token, from the left, at which an error is found. */
    private static void theFirstToken() {
        failsBehind("2 before a byte that starts no token", START, "lean 3 !", 2, 5);
        failsBehind("3 before a number out of its bounds", START, "lean 0 0 x y 99", 3, 9);
        failsBehind("the first CARD before the second one", START, "lean 0 0 x a 45", 3, 9);
        failsBehind("5 before a CARD that is none", START, "lean 1 0 x x 99", 5, 7);
        failsBehind("2 of the LEVEL before the COLUMN", START, "lean 3 3", 2, 5);
        failsBehind("a line before the next one", START, "card a 5 5;card !", 3, 5);
        fails("the table before the lines", "table 2 1 1 0 0 9;card a 5 5;card a 5 5", 2, 16);
    }

    private static void linesThatAreNotComplete() {
        String[] lines = {"card x 5 5", "lean 0 0 a b 45", "lay 1 0 e"};
        String start = START + "lean 0 1 c d 45;lean 0 2 f g 45;";
        String ready = START + "lean 0 0 c d 45;lean 0 1 f g 45;";
        for (String line : lines) {
            String before = line.startsWith("lay") ? ready : start;
            for (int end = line.indexOf(' '); end > 0; end = line.indexOf(' ', end + 1)) {
                failsBehind("cut off", before, line.substring(0, end), 1, end);
                failsBehind("cut off behind a blank", before, line.substring(0, end + 1), 1, end + 1);
                failsBehind("a semicolon too early", before, line.substring(0, end) + ";" + line, 1, end);
            }
            loads("complete", before + line);
            failsBehind("a number too many", before, line + " 5", 1, line.length() + 1);
            failsBehind("a word too many", before, line + " a", 1, line.length() + 1);
            failsBehind("nothing behind the last semicolon", before, line + ";", 1, line.length() + 1);
            failsBehind("two semicolons", before, line + ";;" + line, 1, line.length() + 1);
        }
    }

    private static void firstWords() {
        String[] wrong = {"dable", "tabla", "tabl", "tables", "table a", "card", "lean", "lay", ";", "5"};
        for (String word : wrong) {
            fails("no table", word + " 2 1 1 0 0 0", 1, word.equals("table a") ? 6 : 0);
        }
        String start = "table 2 1 1 0 0 0;card a 5 5;card b 5 5;";
        String[] lines = {"bard", "cart", "cord", "car", "cards", "table", "mean", "leap", "lea", "leans", "bay", "lax", "la", "lays", ";", "5"};
        for (String word : lines) {
            failsBehind("no line", start, word + " 0 0 a b 45", 1, 0);
        }
    }

    // ---- load as a whole

    /** The castle settles only when the whole text is read; what falls then is noted and counted, at the time 0. */
    private static void settlesBehindTheText() {
        // Already the flat card alone (5 of 9) is too much for the pair a b (4).
        String text = "table 2 2 9 0 0 0;card a 1 1;card b 1 1;card d 1 1;card e 1 1;card f 9 9;card g 9 1;card h 9 1;"
            + "lean 0 0 a b 20;lean 0 1 d e 20;lay 1 0 f;lean 1 0 g h 45";
        CardCastle x = loads("a line on what is overloaded", text);
        c.same("3 what falls is counted", x.count(6), 3);
        c.same("3 by its load", x.count(7), 1);
        c.same("3 at the time 0", x.fall(0, 0) + x.fall(1, 0) + x.fall(2, 0), 0);
        c.same("3 the order", Checks.written(x, x.writeFalls()), "p1.0b f1.0b p0.0l");
        c.same("3 the other pair stands", x.pair(0, 1, 5), 0);
        c.same("3 that is no change", x.undoable(), 0);
    }

    /** On success the time is 0, nothing has fallen, nothing can be undone, and no state is saved. */
    private static void loadAfterLoad() {
        String text = START + "lean 0 0 a b 45;lean 0 1 c d 45;lay 1 0 e";
        CardCastle x = loads("the first one", text);
        x.pull(4);
        x.pull(0);
        x.tremor(1, 0);
        x.tick(5);
        x.save(0);
        x.save(1);
        c.noArgument("3 a text with an error", () -> Checks.load(x, text + ";"));
        c.same("3 the previous castle stays", x.count(5), 5);
        c.same("3 what can be undone stays", x.undoable(), 4);
        c.same("3 the slot 0 stays", x.restore(0), 5);
        c.same("3 the slot 1 stays", x.restore(1), 5);
        x.tick(1);
        c.same("3 the cards", Checks.load(x, text + ";card x 1 1"), 9);
        c.same("3 the time", x.count(5), 0);
        for (int what = 6; what <= 11; what++) {
            c.same("3 count " + what, x.count(what), 0);
        }
        c.noIndex("3 no fall can be told", () -> x.fall(0, 0));
        c.noState("3 nothing can be undone", () -> x.undo());
        c.noState("3 the slot 0 is empty", () -> x.restore(0));
        c.noState("3 the slot 1 is empty", () -> x.restore(1));
        c.same("3 the heap is empty", x.count(2), 0);
        c.same("3 the cards are as told", x.card(1, 0) + x.card(1, 5), 5);
        c.same("3 a smaller castle", Checks.load(x, "table 2 1 1 0 0 0;card q 3 3"), 1);
        c.same("3 its cards only", x.count(0), 1);
        c.same("3 its places only", x.count(12), 2);
        c.same("3 nothing stands", x.count(3) + x.count(4), 0);
        c.noIndex("3 the old cards are gone", () -> x.card(1, 0));
    }

    /** The code of the latest call of load that did not throw IndexOutOfBoundsException; 0 if it succeeded. */
    private static void latestErrorIsTold() {
        CardCastle x = new CardCastle();
        String[] texts = {"x", "table 1", START + "card a", Checks.deck("2 2 9 0 0 0", 41, 5, 1), START + "lean 1 0"};
        int[] positions = {0, 6, START.length() + 5, Checks.deck("2 2 9 0 0 0", 40, 5, 1).length() + 1, START.length() + 7};
        for (int code = 1; code <= 5; code++) {
            String text = texts[code - 1];
            c.noArgument("3 code " + code, () -> Checks.load(x, text));
            c.same("4 code", x.parseError(), code);
            c.same("5 position", x.errorPosition(), positions[code - 1]);
            c.noIndex("3 refused", () -> x.load(1));
            c.same("4 the code stays", x.parseError(), code);
            c.same("5 the position stays", x.errorPosition(), positions[code - 1]);
        }
        Checks.load(x, START + "card x 1 1");
        c.same("4 no error", x.parseError(), 0);
        c.same("5 no position", x.errorPosition(), -1);
        c.noIndex("3 refused", () -> x.load(-1));
        c.same("4 no error behind that", x.parseError(), 0);
    }

    // ---- find

    /** The first n bytes of the input buffer are the NAME; then the buffer is empty, whatever stands behind them. */
    private static void findEdges() {
        CardCastle x = loads("names", "table 2 1 1 0 0 0;card abcdef 1 1;card q 1 1;card ac 1 1;card z 1 1");
        c.same("7 none of no bytes", x.find(0), -1);
        c.noIndex("7 one of no bytes", () -> x.find(1));
        c.noIndex("7 -1 of no bytes", () -> x.find(-1));
        Checks.feed(x, "abcdefgh");
        c.noIndex("7 -1", () -> x.find(-1));
        c.noIndex("7 one too many", () -> x.find(21));
        c.noIndex("7 the least int", () -> x.find(MIN));
        c.noIndex("7 the greatest int", () -> x.find(MAX));
        c.same("7 the buffer stays", x.buffered(), 20);
        c.same("7 six bytes", x.find(6), 0);
        c.same("7 the buffer is empty", x.buffered(), 0);
        found(x, "abcdefgh", 5, -1);
        found(x, "abcdefgh", 7, -1);
        found(x, "abcdefgh", 20, -1);
        found(x, "abcdef", 0, -1);
        found(x, "z", 1, 3);
        found(x, "qqqqqqqqqqqqqqqqqqqq", 1, 1);
        Checks.feed(x, "q                   q");
        c.same("7 behind two calls of append", x.find(1), 1);
        c.same("7 all bytes are gone", x.buffered(), 0);
        StringBuilder full = new StringBuilder("ac");
        while (full.length() < 900) {
            full.append(';');
        }
        Checks.feed(x, full.toString());
        c.noIndex("7 more than the full buffer", () -> x.find(901));
        c.same("7 of a full buffer", x.find(2), 2);
        Checks.feed(x, full.toString());
        c.same("7 all of a full buffer", x.find(900), -1);
        c.same("7 and it is empty", x.buffered(), 0);
    }

    /** NONE if there is none: bytes that are no letters do not make a name, blanks neither. */
    private static void findOfNoName() {
        CardCastle x = loads("names", "table 2 1 1 0 0 0;card abcdef 1 1;card q 1 1;card ac 1 1;card z 1 1");
        found(x, " q", 2, -1);
        found(x, "q ", 2, -1);
        found(x, "c ", 2, -1);
        found(x, "bH", 2, -1);
        found(x, "aA", 2, -1);
        found(x, "Q", 1, -1);
        found(x, "{", 1, -1);
        found(x, "`", 1, -1);
        found(x, "a\u0000", 2, -1);
        found(x, "" + (char) ('q' + 128), 1, -1);
        found(x, "ac;", 3, -1);
        found(x, "ca", 2, -1);
        found(x, "abcde", 5, -1);
        // With letters for the digits 1 to 26 in base 27, this is 2^32 more than the name a.
        CardCastle a = loads("a short name", "table 2 1 1 0 0 0;card a 1 1");
        found(a, "kbhsymw", 7, -1);
        CardCastle none = loads("no cards", "table 2 1 1 0 0 0");
        found(none, "a", 1, -1);
        CardCastle forty = loads("forty cards", Checks.deck("2 1 1 0 0 0", 40, 1, 1));
        found(forty, "a", 1, 0);
        found(forty, "an", 2, 39);
        found(forty, "ao", 2, -1);
    }

    private static void found(CardCastle x, String name, int n, int want) {
        Checks.feed(x, name);
        c.same("7 find " + name + " by " + n, x.find(n), want);
        c.same("7 the buffer behind find", x.buffered(), 0);
    }
}
