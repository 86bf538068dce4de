import java.util.ArrayList;
import java.util.List;
import java.util.Map;
import java.util.TreeMap;
import java.util.regex.Matcher;
import java.util.regex.Pattern;

/**
 * The document once more, written quite differently: objects, maps, lists and
 * plain recursion, everything counted anew at each call. Only for the tests.
 */
public final class Model {
    static final class Card {
        String name;
        int born;
        int weight;
        int stiffness;
        int bends;
        boolean onHeap;
    }

    static final class Pair {
        int one;
        int two;
        int angle;
        int wobble;
    }

    static final class Fall {
        int time;
        int level;
        int column;
        int kind;
        int cause;
    }

    static final class State {
        List<Card> cards = new ArrayList<>();
        Map<Integer, Pair> pairs = new TreeMap<>();
        Map<Integer, Integer> flats = new TreeMap<>();
        List<Integer> heap = new ArrayList<>();
        List<Fall> log = new ArrayList<>();
        int[] set = new int[6];
        int time;
        int tremors;

        State copy() {
            State s = new State();
            for (Card c : cards) {
                Card d = new Card();
                d.name = c.name;
                d.born = c.born;
                d.weight = c.weight;
                d.stiffness = c.stiffness;
                d.bends = c.bends;
                d.onHeap = c.onHeap;
                s.cards.add(d);
            }
            for (Map.Entry<Integer, Pair> e : pairs.entrySet()) {
                Pair p = new Pair();
                p.one = e.getValue().one;
                p.two = e.getValue().two;
                p.angle = e.getValue().angle;
                p.wobble = e.getValue().wobble;
                s.pairs.put(e.getKey(), p);
            }
            s.flats.putAll(flats);
            s.heap.addAll(heap);
            s.log.addAll(log);
            s.set = set;
            s.time = time;
            s.tremors = tremors;
            return s;
        }

        boolean isPlace(int level, int column) {
            return 0 <= level && level <= set[1] - 1 && 0 <= column && column <= set[0] - 1 - level;
        }

        Pair pairAt(int level, int column) {
            return isPlace(level, column) ? pairs.get(100 * level + column) : null;
        }

        Integer flatAt(int level, int column) {
            return isPlace(level, column) ? flats.get(100 * level + column) : null;
        }

        int flatLoad(int level, int column) {
            Integer card = flatAt(level, column);
            if (card == null) {
                return 0;
            }
            Pair on = pairAt(level, column);
            int load = cards.get(card).weight;
            if (on != null) {
                load += cards.get(on.one).weight + cards.get(on.two).weight + pairLoad(level, column);
            }
            return load;
        }

        int pairLoad(int level, int column) {
            int left = flatLoad(level + 1, column - 1);
            int right = flatLoad(level + 1, column);
            return (int) Math.floor(left / 2.0) + (int) Math.ceil(right / 2.0);
        }

        int strength(Pair p) {
            int sum = cards.get(p.one).stiffness + cards.get(p.two).stiffness;
            return (int) Math.floor(sum * (100 - 2 * Math.abs(p.angle - 45)) / 25.0);
        }

        boolean canLean(int level, int column) {
            return pairAt(level, column) == null && (level == 0 || flatAt(level, column) != null);
        }

        boolean canLay(int level, int column) {
            return level >= 1 && flatAt(level, column) == null && pairAt(level - 1, column) != null
                && pairAt(level - 1, column + 1) != null;
        }

        boolean built(int card) {
            if (flats.containsValue(card)) {
                return true;
            }
            for (Pair p : pairs.values()) {
                if (p.one == card || p.two == card) {
                    return true;
                }
            }
            return false;
        }

        boolean inHand(int card) {
            return !heap.contains(card) && !built(card);
        }

        List<Integer> hand() {
            List<Integer> hand = new ArrayList<>();
            for (int card = 0; card < cards.size(); card++) {
                if (inHand(card)) {
                    hand.add(card);
                }
            }
            return hand;
        }

        void note(int level, int column, int kind, int cause) {
            Fall f = new Fall();
            f.time = time;
            f.level = level;
            f.column = column;
            f.kind = kind;
            f.cause = cause;
            log.add(f);
        }

        void thrown(int card, int level, int kept) {
            if (card == kept) {
                return;
            }
            heap.add(card);
            Card c = cards.get(card);
            if (level >= set[5] && c.stiffness > 1) {
                c.stiffness--;
                c.bends++;
            }
        }

        void fallPair(int level, int column, int cause, int kept) {
            Pair p = pairAt(level, column);
            if (p != null) {
                pairs.remove(100 * level + column);
                note(level, column, 0, cause);
                thrown(p.one, level, kept);
                thrown(p.two, level, kept);
                fallFlat(level + 1, column - 1, 2, -1);
                fallFlat(level + 1, column, 2, -1);
            }
        }

        void fallFlat(int level, int column, int cause, int kept) {
            Integer card = flatAt(level, column);
            if (card != null) {
                flats.remove(100 * level + column);
                note(level, column, 1, cause);
                thrown(card, level, kept);
                fallPair(level, column, 2, -1);
            }
        }

        int settle() {
            int before = log.size();
            boolean again = true;
            while (again) {
                again = false;
                for (int place : new ArrayList<>(pairs.keySet())) {
                    int level = place / 100;
                    int column = place % 100;
                    if (pairLoad(level, column) > strength(pairs.get(place))) {
                        fallPair(level, column, 0, -1);
                        again = true;
                        break;
                    }
                }
            }
            return log.size() - before;
        }

        int tremor(int force, int column) {
            int before = log.size();
            tremors++;
            for (Map.Entry<Integer, Pair> e : pairs.entrySet()) {
                int level = e.getKey() / 100;
                int c = e.getKey() % 100;
                Pair p = e.getValue();
                int shake = (force - set[3] * Math.abs(2 * c + level - 2 * column)) * (level + 1);
                if (shake > 0) {
                    p.wobble += shake / (cards.get(p.one).stiffness + cards.get(p.two).stiffness);
                }
            }
            boolean again = true;
            while (again) {
                again = false;
                for (int place : new ArrayList<>(pairs.keySet())) {
                    if (pairs.get(place).wobble > set[2]) {
                        fallPair(place / 100, place % 100, 1, -1);
                        again = true;
                        break;
                    }
                }
            }
            settle();
            return log.size() - before;
        }

        int pull(int card) {
            int before = log.size();
            for (int place : new ArrayList<>(flats.keySet())) {
                if (flats.get(place) == card) {
                    fallFlat(place / 100, place % 100, 3, card);
                    settle();
                    return log.size() - before;
                }
            }
            for (int place : new ArrayList<>(pairs.keySet())) {
                Pair p = pairs.get(place);
                if (p.one == card || p.two == card) {
                    fallPair(place / 100, place % 100, 3, card);
                    settle();
                    return log.size() - before;
                }
            }
            return 0;
        }

        int builtWeight() {
            int sum = 0;
            for (int card = 0; card < cards.size(); card++) {
                sum += built(card) ? cards.get(card).weight : 0;
            }
            return sum;
        }
    }

    private final StringBuilder buffer = new StringBuilder();
    private int error = 0;
    private int position = -1;
    private State now = null;
    private final List<State> undo = new ArrayList<>();
    private final State[] slots = new State[2];
    private String written = "";

    // ---- exceptions

    private static void argument(boolean holds) {
        if (!holds) {
            throw new IllegalArgumentException();
        }
    }

    private static void index(boolean holds) {
        if (!holds) {
            throw new IndexOutOfBoundsException();
        }
    }

    private static void state(boolean holds) {
        if (!holds) {
            throw new IllegalStateException();
        }
    }

    private void place(int level, int column) {
        state(now != null);
        index(now.isPlace(level, column));
    }

    private void cardIn(int card) {
        state(now != null);
        index(0 <= card && card < now.cards.size());
    }

    private static void range(int value, int least, int most) {
        argument(least <= value && value <= most);
    }

    private void change() {
        undo.add(now.copy());
        if (undo.size() > 8) {
            undo.remove(0);
        }
    }

    // ---- input

    public int append(int a, int b, int c, int d, int e) {
        if (buffer.length() > 880) {
            return -1;
        }
        for (int word : new int[] {a, b, c, d, e}) {
            for (int shift = 24; shift >= 0; shift -= 8) {
                buffer.append((char) (word >>> shift & 0xff));
            }
        }
        return buffer.length();
    }

    private static final class Wrong extends Exception {
        private static final long serialVersionUID = 1L;
        final int code;
        final int at;

        Wrong(int code, int at) {
            this.code = code;
            this.at = at;
        }
    }

    /** Tokens found by one pattern; the rest of the text is whatever matches nothing else. */
    private static final Pattern TOKEN = Pattern.compile(" +|([a-z]+)|([0-9]+)|(;)|([^ a-z0-9;])", Pattern.DOTALL);

    private static final class Reader {
        final List<String> tokens = new ArrayList<>();
        final List<Integer> starts = new ArrayList<>();
        int next = 0;

        Reader(String text) {
            Matcher m = TOKEN.matcher(text);
            while (m.find()) {
                if (m.group().charAt(0) != ' ') {
                    tokens.add(m.group());
                    starts.add(m.start());
                }
            }
            tokens.add("");
            starts.add(text.length());
        }

        String peek() {
            return tokens.get(next);
        }

        int at() {
            return starts.get(next);
        }

        boolean ended() {
            return peek().isEmpty();
        }

        void literal(String word) throws Wrong {
            if (!peek().equals(word)) {
                throw new Wrong(1, at());
            }
            next++;
        }

        String word() throws Wrong {
            if (!peek().matches("[a-z]{1,6}")) {
                throw new Wrong(1, at());
            }
            return peek();
        }

        int number(int least, int most) throws Wrong {
            if (!peek().matches("[0-9]{1,3}")) {
                throw new Wrong(1, at());
            }
            int value = Integer.parseInt(peek());
            if (value < least || value > most) {
                throw new Wrong(2, at());
            }
            next++;
            return value;
        }
    }

    private static int named(State s, String name) {
        for (int card = 0; card < s.cards.size(); card++) {
            if (s.cards.get(card).name.equals(name)) {
                return card;
            }
        }
        return -1;
    }

    private static int handCard(State s, Reader r, int used) throws Wrong {
        int card = named(s, r.word());
        if (card < 0 || card == used || !s.inHand(card)) {
            throw new Wrong(3, r.at());
        }
        r.next++;
        return card;
    }

    private static void line(State s, Reader r) throws Wrong {
        String first = r.peek();
        if (first.equals("card")) {
            if (s.cards.size() == 40) {
                throw new Wrong(4, r.at());
            }
            r.next++;
            Card c = new Card();
            c.name = r.word();
            if (named(s, c.name) >= 0) {
                throw new Wrong(3, r.at());
            }
            r.next++;
            c.born = r.number(1, 9);
            c.stiffness = c.born;
            c.weight = r.number(1, 9);
            s.cards.add(c);
            return;
        }
        if (!first.equals("lean") && !first.equals("lay")) {
            throw new Wrong(1, r.at());
        }
        boolean lean = first.equals("lean");
        r.next++;
        int level = r.number(lean ? 0 : 1, s.set[1] - 1);
        int at = r.at();
        int column = r.number(0, s.set[0] - 1 - level);
        if (lean ? !s.canLean(level, column) : !s.canLay(level, column)) {
            throw new Wrong(5, at);
        }
        int one = handCard(s, r, -1);
        if (!lean) {
            s.flats.put(100 * level + column, one);
            return;
        }
        Pair p = new Pair();
        p.one = one;
        p.two = handCard(s, r, one);
        p.angle = r.number(20, 70);
        s.pairs.put(100 * level + column, p);
    }

    private static State parse(String text) throws Wrong {
        Reader r = new Reader(text);
        State s = new State();
        r.literal("table");
        int[][] bounds = {{2, 12}, {1, 8}, {1, 99}, {0, 9}, {0, 20}, {0, 8}};
        for (int what = 0; what < 6; what++) {
            s.set[what] = r.number(bounds[what][0], bounds[what][1]);
        }
        while (!r.ended()) {
            r.literal(";");
            line(s, r);
        }
        return s;
    }

    public int load(int n) {
        index(0 <= n && n <= buffer.length());
        String text = buffer.substring(0, n);
        buffer.setLength(0);
        error = 0;
        position = -1;
        try {
            State s = parse(text);
            s.settle();
            now = s;
            undo.clear();
            slots[0] = null;
            slots[1] = null;
            return s.cards.size();
        } catch (Wrong w) {
            error = w.code;
            position = w.at;
        }
        throw new IllegalArgumentException();
    }

    public int parseError() {
        return error;
    }

    public int errorPosition() {
        return position;
    }

    public int buffered() {
        return buffer.length();
    }

    public int find(int n) {
        state(now != null);
        index(0 <= n && n <= buffer.length());
        String name = buffer.substring(0, n);
        buffer.setLength(0);
        return named(now, name);
    }

    // ---- what there is

    public int count(int what) {
        state(now != null);
        range(what, 0, 12);
        if (what >= 7 && what <= 10) {
            int sum = 0;
            for (Fall f : now.log) {
                sum += f.cause == what - 7 ? 1 : 0;
            }
            return sum;
        }
        int places = 0;
        for (int level = 0; level < 8; level++) {
            for (int column = 0; column < 12; column++) {
                places += now.isPlace(level, column) ? 1 : 0;
            }
        }
        int[] counts = {now.cards.size(), now.hand().size(), now.heap.size(), now.pairs.size(), now.flats.size(),
            now.time, now.log.size(), 0, 0, 0, 0, now.tremors, places};
        return counts[what];
    }

    public int setting(int what) {
        state(now != null);
        range(what, 0, 5);
        return now.set[what];
    }

    public int card(int card, int what) {
        cardIn(card);
        range(what, 0, 5);
        Card c = now.cards.get(card);
        int where = now.heap.contains(card) ? 1 : 0;
        int at = -1;
        for (Map.Entry<Integer, Pair> e : now.pairs.entrySet()) {
            if (e.getValue().one == card || e.getValue().two == card) {
                where = 2;
                at = e.getKey();
            }
        }
        for (Map.Entry<Integer, Integer> e : now.flats.entrySet()) {
            if (e.getValue() == card) {
                where = 3;
                at = e.getKey();
            }
        }
        int[] parts = {c.stiffness, c.weight, where, at < 0 ? -1 : at / 100, at < 0 ? -1 : at % 100, c.bends};
        return parts[what];
    }

    public int pair(int level, int column, int what) {
        place(level, column);
        range(what, 0, 6);
        Pair p = now.pairAt(level, column);
        if (p == null) {
            return -1;
        }
        int strength = now.strength(p);
        int load = now.pairLoad(level, column);
        return new int[] {p.one, p.two, p.angle, p.wobble, strength, load, strength - load}[what];
    }

    public int flat(int level, int column, int what) {
        place(level, column);
        range(what, 0, 3);
        Integer card = now.flatAt(level, column);
        if (card == null) {
            return -1;
        }
        int load = now.flatLoad(level, column);
        return new int[] {card, load, (load + 1) / 2, load - (load + 1) / 2}[what];
    }

    public int fall(int index, int what) {
        state(now != null);
        index(0 <= index && index < 30 && index < now.log.size());
        range(what, 0, 4);
        Fall f = now.log.get(now.log.size() - 1 - index);
        return new int[] {f.time, f.level, f.column, f.kind, f.cause}[what];
    }

    public int inHand(int index) {
        state(now != null);
        index(0 <= index && index < now.hand().size());
        return now.hand().get(index);
    }

    public int onHeap(int index) {
        state(now != null);
        index(0 <= index && index < now.heap.size());
        return now.heap.get(index);
    }

    public boolean canLean(int level, int column) {
        place(level, column);
        return now.canLean(level, column);
    }

    public boolean canLay(int level, int column) {
        place(level, column);
        return now.canLay(level, column);
    }

    // ---- looks

    public int top() {
        state(now != null);
        int top = -1;
        for (int place : now.pairs.keySet()) {
            top = Math.max(top, place / 100);
        }
        return top;
    }

    private static int leastReserve(State s) {
        int least = Integer.MAX_VALUE;
        for (int place : s.pairs.keySet()) {
            least = Math.min(least, s.strength(s.pairs.get(place)) - s.pairLoad(place / 100, place % 100));
        }
        return least;
    }

    public int weakest() {
        state(now != null);
        int least = leastReserve(now);
        for (int place : now.pairs.keySet()) {
            if (now.strength(now.pairs.get(place)) - now.pairLoad(place / 100, place % 100) == least) {
                return place;
            }
        }
        return -1;
    }

    public int shakiest() {
        state(now != null);
        for (int wobble = 99; wobble >= 0; wobble--) {
            for (int place : now.pairs.keySet()) {
                if (now.pairs.get(place).wobble == wobble) {
                    return place;
                }
            }
        }
        return -1;
    }

    public int supported(int level, int column) {
        place(level, column);
        State s = now.copy();
        s.fallPair(level, column, 3, -1);
        return s.log.size() - now.log.size();
    }

    public int above(int level, int column) {
        place(level, column);
        State s = now.copy();
        s.fallPair(level, column, 3, -1);
        int sum = 0;
        for (int index = now.heap.size() + 2; index < s.heap.size(); index++) {
            sum += now.cards.get(s.heap.get(index)).weight;
        }
        return sum;
    }

    public int onTable(int column) {
        place(0, column);
        Pair p = now.pairAt(0, column);
        return p == null ? 0 : now.pairLoad(0, column) + now.cards.get(p.one).weight + now.cards.get(p.two).weight;
    }

    public int weight() {
        state(now != null);
        return now.builtWeight();
    }

    public double meanReserve() {
        state(now != null);
        int sum = 0;
        for (int place : now.pairs.keySet()) {
            sum += now.strength(now.pairs.get(place)) - now.pairLoad(place / 100, place % 100);
        }
        return now.pairs.isEmpty() ? 0.0 : (double) sum / (double) now.pairs.size();
    }

    public float builtShare() {
        return (float) count(3) / (float) count(12);
    }

    public int strengthOf(int card, int other, int angle) {
        cardIn(card);
        cardIn(other);
        argument(card != other);
        range(angle, 20, 70);
        Pair p = new Pair();
        p.one = card;
        p.two = other;
        p.angle = angle;
        return now.strength(p);
    }

    public int stiffest() {
        state(now != null);
        for (int sum = 18; sum >= 2; sum--) {
            for (int one : now.hand()) {
                for (int two : now.hand()) {
                    if (one < two && now.cards.get(one).stiffness + now.cards.get(two).stiffness == sum) {
                        return 100 * one + two;
                    }
                }
            }
        }
        return -1;
    }

    // ---- what would be

    private void tremorIn(int force, int column) {
        state(now != null);
        range(force, 1, 99);
        range(column, 0, now.set[0] - 1);
    }

    public int fallsBy(int force, int column) {
        tremorIn(force, column);
        return now.copy().tremor(force, column);
    }

    public int leastForce(int column) {
        tremorIn(1, column);
        for (int force = 1; force <= 99; force++) {
            if (now.copy().tremor(force, column) > 0) {
                return force;
            }
        }
        return -1;
    }

    public int worstColumn(int force) {
        tremorIn(force, 0);
        int worst = 0;
        for (int column = 1; column < now.set[0]; column++) {
            if (fallsBy(force, column) > fallsBy(force, worst)) {
                worst = column;
            }
        }
        return worst;
    }

    public int calmIn() {
        state(now != null);
        State s = now.copy();
        for (int ticks = 0; ticks <= 100; ticks++) {
            boolean calm = true;
            for (Pair p : s.pairs.values()) {
                calm = calm && p.wobble == 0;
                p.wobble = Math.max(0, p.wobble - s.set[4]);
            }
            if (calm) {
                return ticks;
            }
        }
        return -1;
    }

    public int tremorsTo(int force, int column) {
        tremorIn(force, column);
        State s = now.copy();
        for (int tremors = 1; tremors <= 50; tremors++) {
            if (s.tremor(force, column) > 0) {
                return tremors;
            }
        }
        return -1;
    }

    public int fallsIfPulled(int card) {
        cardIn(card);
        return now.copy().pull(card);
    }

    public int safest(int card) {
        cardIn(card);
        int best = -1;
        int most = -1;
        if (!now.inHand(card)) {
            return -1;
        }
        for (int level = 1; level < 8; level++) {
            for (int column = 0; column < 12; column++) {
                if (now.isPlace(level, column) && now.canLay(level, column)) {
                    State s = now.copy();
                    s.flats.put(100 * level + column, card);
                    if (s.settle() == 0 && leastReserve(s) > most) {
                        most = leastReserve(s);
                        best = 100 * level + column;
                    }
                }
            }
        }
        return best;
    }

    public int bestAngle(int level, int column) {
        place(level, column);
        Pair p = now.copy().pairAt(level, column);
        if (p == null) {
            return -1;
        }
        int best = -1;
        int most = -1;
        for (p.angle = 20; p.angle <= 70; p.angle++) {
            if (now.strength(p) > most) {
                most = now.strength(p);
                best = p.angle;
            }
        }
        return best;
    }

    // ---- texts

    public int writeLevel(int level) {
        state(now != null);
        index(0 <= level && level < now.set[1]);
        written = "";
        for (int column = 0; now.isPlace(level, column); column++) {
            written += now.pairAt(level, column) != null ? "A" : now.flatAt(level, column) != null ? "_" : " ";
        }
        return written.length();
    }

    public int writePair(int level, int column) {
        place(level, column);
        Pair p = now.pairAt(level, column);
        written = p == null ? "-" : now.cards.get(p.one).name + "/" + p.angle + "\\" + now.cards.get(p.two).name + " "
            + now.pairLoad(level, column) + ":" + now.strength(p);
        return written.length();
    }

    public int writeFalls() {
        state(now != null);
        written = "";
        for (int index = 0; index < Math.min(30, now.log.size()); index++) {
            Fall f = now.log.get(now.log.size() - 1 - index);
            written += (index > 0 ? " " : "") + "pf".charAt(f.kind) + f.level + "." + f.column + "lwbx".charAt(f.cause);
        }
        return written.length();
    }

    public int textByte(int i) {
        index(0 <= i && i < written.length());
        return written.charAt(i);
    }

    // ---- changes

    public int lean(int level, int column, int card, int other, int angle) {
        place(level, column);
        cardIn(card);
        cardIn(other);
        argument(now.canLean(level, column) && card != other && now.inHand(card) && now.inHand(other));
        range(angle, 20, 70);
        change();
        Pair p = new Pair();
        p.one = card;
        p.two = other;
        p.angle = angle;
        now.pairs.put(100 * level + column, p);
        return now.settle();
    }

    public int lay(int level, int column, int card) {
        place(level, column);
        cardIn(card);
        argument(now.canLay(level, column) && now.inHand(card));
        change();
        now.flats.put(100 * level + column, card);
        return now.settle();
    }

    public int pull(int card) {
        cardIn(card);
        argument(now.built(card));
        change();
        return now.pull(card);
    }

    public int takeDown(int level, int column) {
        place(level, column);
        argument(now.pairAt(level, column) != null && now.flatAt(level + 1, column - 1) == null
            && now.flatAt(level + 1, column) == null);
        change();
        now.pairs.remove(100 * level + column);
        return now.hand().size();
    }

    public int lift(int level, int column) {
        place(level, column);
        argument(now.flatAt(level, column) != null && now.pairAt(level, column) == null);
        change();
        now.flats.remove(100 * level + column);
        return now.hand().size();
    }

    public int pickUp(int card) {
        cardIn(card);
        argument(now.heap.contains(card));
        change();
        now.heap.remove(Integer.valueOf(card));
        return now.heap.size();
    }

    public int tremor(int force, int column) {
        tremorIn(force, column);
        change();
        return now.tremor(force, column);
    }

    public int tick(int ticks) {
        state(now != null);
        argument(ticks >= 1 && ticks <= 100 && now.time + ticks <= 9999);
        change();
        int wobbling = 0;
        for (int tick = 0; tick < ticks; tick++) {
            now.time++;
            wobbling = 0;
            for (Pair p : now.pairs.values()) {
                p.wobble = Math.max(0, p.wobble - now.set[4]);
                wobbling += p.wobble > 0 ? 1 : 0;
            }
        }
        return wobbling;
    }

    public int turn(int level, int column, int angle) {
        place(level, column);
        argument(now.pairAt(level, column) != null && angle >= 20 && angle <= 70);
        change();
        now.pairAt(level, column).angle = angle;
        return now.settle();
    }

    public int smooth(int card) {
        cardIn(card);
        Card c = now.cards.get(card);
        argument(now.inHand(card) && c.stiffness < c.born);
        change();
        return ++now.cards.get(card).stiffness;
    }

    public int undo() {
        state(!undo.isEmpty());
        now = undo.remove(undo.size() - 1);
        return undo.size();
    }

    public int undoable() {
        return undo.size();
    }

    public int save(int slot) {
        state(now != null);
        index(slot == 0 || slot == 1);
        slots[slot] = now.copy();
        return now.time;
    }

    public int restore(int slot) {
        index(slot == 0 || slot == 1);
        state(slots[slot] != null);
        now = slots[slot].copy();
        undo.clear();
        return now.time;
    }
}
