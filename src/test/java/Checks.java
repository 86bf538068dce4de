/** What all tests of the project share: counted checks, and castles made of texts. */
final class Checks {
    interface Call {
        void make();
    }

    private int passed = 0;
    private int failed = 0;

    void same(String what, long got, long want) {
        verdict(got == want, what + " answered " + got + ", due is " + want);
    }

    void same(String what, double got, double want) {
        verdict(got == want, what + " answered " + got + ", due is " + want);
    }

    void same(String what, String got, String want) {
        verdict(want.equals(got), what + " answered '" + got + "', due is '" + want + "'");
    }

    void holds(String what, boolean got) {
        verdict(got, what + " does not hold");
    }

    /** The call must throw just this class, not one below it that the machine may throw. */
    void refuses(String what, Class<?> kind, Call call) {
        Class<?> thrown = null;
        try {
            call.make();
        } catch (RuntimeException e) {
            thrown = e.getClass();
        }
        verdict(thrown == kind, what + " threw " + thrown + ", due is " + kind);
    }

    void noState(String what, Call call) {
        refuses(what, IllegalStateException.class, call);
    }

    void noIndex(String what, Call call) {
        refuses(what, IndexOutOfBoundsException.class, call);
    }

    void noArgument(String what, Call call) {
        refuses(what, IllegalArgumentException.class, call);
    }

    private void verdict(boolean right, String message) {
        if (right) {
            passed++;
        } else {
            failed++;
            System.out.println("WRONG: " + message);
        }
    }

    void end(String name) {
        System.out.println(name + ": " + passed + " passed, " + failed + " failed");
        if (failed > 0 || passed == 0) {
            System.exit(1);
        }
    }

    /** Appends a text, filled up with blanks to whole calls of append. */
    static void feed(CardCastle x, String text) {
        StringBuilder bytes = new StringBuilder(text);
        while (bytes.length() % 20 != 0) {
            bytes.append(' ');
        }
        for (int at = 0; at < bytes.length(); at += 20) {
            x.append(four(bytes, at), four(bytes, at + 4), four(bytes, at + 8), four(bytes, at + 12), four(bytes, at + 16));
        }
    }

    private static int four(CharSequence bytes, int at) {
        int word = 0;
        for (int i = 0; i < 4; i++) {
            word = word << 8 | bytes.charAt(at + i) & 255;
        }
        return word;
    }

    static int load(CardCastle x, String text) {
        feed(x, text);
        return x.load(text.length());
    }

    static CardCastle loaded(String text) {
        CardCastle x = new CardCastle();
        load(x, text);
        return x;
    }

    /** A text with the settings and some cards, all alike; the names are a to z, then aa to an. */
    static String deck(String settings, int cards, int stiffness, int weight) {
        StringBuilder text = new StringBuilder("table ").append(settings);
        for (int card = 0; card < cards; card++) {
            text.append(";card ").append(card < 26 ? "" : "a").append((char) ('a' + card % 26));
            text.append(' ').append(stiffness).append(' ').append(weight);
        }
        return text.toString();
    }

    /** Builds level by level, as long as the cards go: 40 cards make 15 pairs and 10 flat cards on 5 columns. */
    static void pyramid(CardCastle x, int columns) {
        int card = 0;
        for (int level = 0; level < columns; level++) {
            for (int column = 0; column < columns - level; column++) {
                if (level > 0) {
                    x.lay(level, column, card++);
                }
                x.lean(level, column, card, card + 1, 45);
                card += 2;
            }
        }
    }

    /** The text that was written last, read by its number of bytes. */
    static String written(CardCastle x, int bytes) {
        StringBuilder signs = new StringBuilder();
        for (int i = 0; i < bytes; i++) {
            signs.append((char) x.textByte(i));
        }
        return signs.toString();
    }
}
