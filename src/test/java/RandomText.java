import java.util.ArrayList;
import java.util.List;
import java.util.Random;

/** Texts of castles, drawn from a given source: right ones, and ones with an error. */
final class RandomText {
    private RandomText() {
    }

    /** A text that is mostly right; now and then something cannot be built. */
    static String castle(Random random) {
        int wide = 2 + random.nextInt(random.nextBoolean() ? 3 : 11);
        int levels = 1 + random.nextInt(random.nextBoolean() ? 4 : 8);
        int limit = 1 + random.nextInt(random.nextBoolean() ? 99 : 20);
        StringBuilder text = new StringBuilder("table " + wide + " " + levels + " " + limit + " " + random.nextInt(10)
            + " " + random.nextInt(random.nextBoolean() ? 21 : 3) + " " + random.nextInt(random.nextBoolean() ? 3 : 9));
        int cards = random.nextInt(4) == 0 ? random.nextInt(41) : 10 + random.nextInt(20);
        int strong = 1 + random.nextInt(9);
        int heavy = 1 + random.nextInt(9);
        List<String> hand = new ArrayList<>();
        for (int card = 0; card < cards; card++) {
            String name = name(card, random);
            text.append(";card ").append(name).append(' ').append(10 - 1 - random.nextInt(strong)).append(' ')
                .append(1 + random.nextInt(heavy));
            hand.add(random.nextInt(hand.size() + 1), name);
        }
        build(text, hand, wide, levels, random);
        return text.toString();
    }

    private static String name(int card, Random random) {
        String name = card < 26 ? "" + (char) ('a' + card) : "a" + (char) ('a' + card - 26);
        return random.nextInt(12) == 0 ? (name + "zzzz").substring(0, name.length() + random.nextInt(5)) : name;
    }

    /** Builds level by level, with gaps. */
    private static void build(StringBuilder text, List<String> hand, int wide, int levels, Random random) {
        boolean[] below = new boolean[13];
        for (int level = 0; level < levels; level++) {
            boolean[] here = new boolean[13];
            for (int column = 0; column < wide - level; column++) {
                if (level > 0 && (!below[column] || !below[column + 1] || hand.isEmpty())) {
                    continue;
                }
                if (level > 0 && random.nextInt(8) > 0) {
                    text.append(";lay ").append(level).append(' ').append(column).append(' ').append(hand.remove(0));
                    here[column] = true;
                }
                here[column] = (level == 0 || here[column]) && hand.size() > 1 && random.nextInt(8) > 0;
                if (here[column] && text.length() < 880) {
                    text.append(";lean ").append(level).append(' ').append(column).append(' ').append(hand.remove(0))
                        .append(' ').append(hand.remove(0)).append(' ').append(20 + random.nextInt(51));
                }
            }
            below = here;
        }
    }

    /** A text with a byte changed, put in, or taken out, or cut off. */
    static String spoilt(Random random) {
        StringBuilder text = new StringBuilder(castle(random));
        String signs = "abtlcy0123479;; \u00e9A\n";
        for (int times = random.nextInt(3); times >= 0 && text.length() > 0; times--) {
            int at = random.nextInt(text.length());
            char sign = signs.charAt(random.nextInt(signs.length()));
            switch (random.nextInt(5)) {
                case 0: text.setCharAt(at, sign); break;
                case 1: text.insert(at, sign); break;
                case 2: text.deleteCharAt(at); break;
                case 3: swapTokens(text, random); break;
                default: text.setLength(Math.max(1, at)); break;
            }
        }
        return text.toString();
    }

    private static void swapTokens(StringBuilder text, Random random) {
        String[] tokens = text.toString().split(" ");
        int one = random.nextInt(tokens.length);
        int two = random.nextInt(tokens.length);
        String kept = tokens[one];
        tokens[one] = tokens[two];
        tokens[two] = kept;
        text.setLength(0);
        text.append(String.join(" ", tokens));
    }

    static String word(Random random) {
        StringBuilder word = new StringBuilder();
        for (int letters = random.nextInt(3); letters >= 0; letters--) {
            word.append((char) ('a' + random.nextInt(26)));
        }
        return word.toString();
    }
}
