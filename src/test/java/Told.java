/** What an object tells, as a text, so that two objects or two moments can be compared. */
final class Told {
    private Told() {
    }

    /** All that is told of the castle; nothing is changed by that. */
    static String castle(CardCastle x) {
        StringBuilder all = new StringBuilder("counts");
        for (int what = 0; what <= 12; what++) {
            add(all, x.count(what));
        }
        all.append(" settings");
        for (int what = 0; what <= 5; what++) {
            add(all, x.setting(what));
        }
        for (int card = 0; card < x.count(0); card++) {
            all.append(" card");
            for (int what = 0; what <= 5; what++) {
                add(all, x.card(card, what));
            }
        }
        places(all, x);
        falls(all, x);
        all.append(" hand");
        for (int index = 0; index < x.count(1); index++) {
            add(all, x.inHand(index));
        }
        all.append(" heap");
        for (int index = 0; index < x.count(2); index++) {
            add(all, x.onHeap(index));
        }
        return all.toString();
    }

    private static void places(StringBuilder all, CardCastle x) {
        for (int level = 0; level < x.setting(1); level++) {
            for (int column = 0; column < x.setting(0) - level; column++) {
                all.append(" at ").append(level).append('.').append(column);
                for (int what = 0; what <= 6; what++) {
                    add(all, x.pair(level, column, what));
                }
                for (int what = 0; what <= 3; what++) {
                    add(all, x.flat(level, column, what));
                }
            }
        }
    }

    private static void falls(StringBuilder all, CardCastle x) {
        for (int index = 0; index < Math.min(30, x.count(6)); index++) {
            all.append(" fall");
            for (int what = 0; what <= 4; what++) {
                add(all, x.fall(index, what));
            }
        }
    }

    /** A few numbers that differ behind most changes. */
    static String shortly(CardCastle x) {
        StringBuilder some = new StringBuilder(" then");
        int[] counts = {1, 2, 3, 4, 5, 6, 11};
        for (int what : counts) {
            add(some, x.count(what));
        }
        add(some, x.weakest());
        return some.toString();
    }

    /** What is told of the input, with the text that was written last. */
    static String inputAndText(CardCastle x) {
        StringBuilder all = new StringBuilder();
        add(all.append("buffered"), x.buffered());
        add(all.append(" error"), x.parseError());
        add(all.append(" at"), x.errorPosition());
        add(all.append(" undoable"), x.undoable());
        return all.append(" text ").append(text(x)).toString();
    }

    static String text(CardCastle x) {
        StringBuilder text = new StringBuilder();
        try {
            for (int index = 0; index < 300; index++) {
                text.append((char) x.textByte(index));
            }
        } catch (IndexOutOfBoundsException e) {
            text.append('.');
        }
        return text.toString();
    }

    /** What can be undone, what is saved, and what the buffer holds; the object is used up by that. */
    static String rest(CardCastle x, int bytes) {
        StringBuilder all = new StringBuilder();
        for (int left = x.undoable(); left > 0; left--) {
            add(all.append(" undo"), x.undo());
            all.append(shortly(x));
        }
        for (int slot = 0; slot < 2; slot++) {
            all.append(" slot ").append(slot);
            try {
                add(all, x.restore(slot));
                all.append(shortly(x)).append(' ').append(Checks.written(x, x.writeFalls()));
            } catch (IllegalStateException e) {
                all.append(" is empty");
            }
        }
        all.append(" buffer");
        try {
            add(all, x.load(bytes));
            add(all, x.setting(0));
        } catch (IllegalArgumentException | IndexOutOfBoundsException e) {
            add(all.append(" is wrong"), x.errorPosition());
        }
        return all.toString();
    }

    private static void add(StringBuilder all, int number) {
        all.append(' ').append(number);
    }
}
