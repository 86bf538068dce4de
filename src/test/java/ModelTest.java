import java.lang.reflect.InvocationTargetException;
import java.lang.reflect.Method;
import java.lang.reflect.Modifier;
import java.util.ArrayList;
import java.util.Arrays;
import java.util.Comparator;
import java.util.List;
import java.util.Random;

/**
 * Runs of calls that are drawn (always the same ones), made on the class and on
 * the model: each answer and each exception must be the same. The exceptions
 * must be those that a throw statement makes, and not the machine's own.
 */
public final class ModelTest {
    private static final int RUNS = 3000;
    private static final int CALLS = 512;
    private static final String PLACED = " pair flat canLean canLay supported above bestAngle writePair takeDown lift ";
    private static final String OF_CARDS = " card fallsIfPulled safest pull pickUp smooth ";
    private static final String SHAKING = " fallsBy tremorsTo ";

    private final Checks c = new Checks();
    private final List<Method> methods = new ArrayList<>();
    private final int[] answered = new int[64];
    private Random random;
    private CardCastle castle;
    private Model model;
    private int made;
    private String story;

    public static void main(String[] args) throws Exception {
        new ModelTest().all();
    }

    private void all() throws Exception {
        for (Method m : CardCastle.class.getDeclaredMethods()) {
            if (Modifier.isPublic(m.getModifiers())) {
                methods.add(m);
            }
        }
        methods.sort(Comparator.comparing(Method::getName));
        for (int run = 0; run < RUNS; run++) {
            random = new Random(run);
            castle = new CardCastle();
            model = new Model();
            made = 0;
            story = "run " + run;
            oneRun();
        }
        for (int m = 0; m < methods.size(); m++) {
            c.holds(methods.get(m).getName() + " answered at least 1000 times", answered[m] >= 1000);
        }
        c.end("ModelTest");
    }

    private void oneRun() throws Exception {
        if (random.nextInt(4) == 0) {
            some(5);
        }
        give(RandomText.castle(random));
        while (made < CALLS - 60) {
            int next = random.nextInt(100);
            if (next < 45) {
                change();
            } else if (next == 45) {
                give(RandomText.spoilt(random));
            } else if (next == 46) {
                give(RandomText.castle(random));
            } else if (next == 47) {
                give(RandomText.word(random));
                call("find", random.nextInt(4));
            } else if (next == 48) {
                call("save", random.nextInt(2));
            } else if (next == 49) {
                call("restore", random.nextInt(2));
            } else if (next < 53) {
                everyByte();
            } else {
                some(1);
            }
        }
    }

    /** A change that is likely to succeed. */
    private void change() throws Exception {
        int wide = Math.max(1, model("setting", 0));
        int cards = Math.max(1, model("count", 0));
        int[] p;
        switch (random.nextInt(15)) {
            case 0: case 1: case 2:
                p = place("canLean", true);
                call("lean", p[0], p[1], hand(cards), hand(cards), 20 + random.nextInt(51));
                break;
            case 3: case 4: case 5:
                p = place("canLay", true);
                call("lay", p[0], p[1], hand(cards));
                break;
            case 6: call("pull", random.nextInt(cards)); break;
            case 7:
                p = place("canLean", false);
                call("takeDown", p[0], p[1]);
                break;
            case 8:
                p = place("canLean", true);
                call("lift", p[0], p[1]);
                break;
            case 9: call("pickUp", Math.max(0, model("onHeap", random.nextInt(3)))); break;
            case 10: call("tremor", 1 + random.nextInt(random.nextInt(4) == 0 ? 99 : 20), random.nextInt(wide)); break;
            case 11: call("tick", 1 + random.nextInt(random.nextInt(4) == 0 ? 100 : 3)); break;
            case 12:
                p = place("canLean", false);
                call("turn", p[0], p[1], 20 + random.nextInt(51));
                break;
            case 13: smoothing(cards); break;
            default: call("undo"); break;
        }
    }

    /** A place for which the model answers so, if one is drawn in some tries. */
    private int[] place(String question, boolean due) throws Exception {
        int[] p = new int[2];
        boolean right = false;
        for (int tries = 0; tries < 12 && !right; tries++) {
            p[0] = random.nextInt(Math.max(1, model("setting", 1)));
            p[1] = random.nextInt(Math.max(1, model("setting", 0) - p[0]));
            if (model("setting", 0) > 0 && p[0] < model("setting", 0)) {
                right = (Boolean) Model.class.getMethod(question, int.class, int.class).invoke(model, p[0], p[1]) == due;
            }
        }
        return p;
    }

    /** Picks up a card that is bent and smooths it, more often than it was bent. */
    private void smoothing(int cards) throws Exception {
        int card = Math.max(0, model("onHeap", 0));
        call("pickUp", card);
        for (int times = random.nextInt(4); times >= 0; times--) {
            call("smooth", card);
        }
        call("card", card, 5);
    }

    private int hand(int cards) throws Exception {
        int size = model("count", 1);
        return size > 0 && random.nextInt(10) > 0 ? model("inHand", random.nextInt(size)) : random.nextInt(cards);
    }

    /** What the model answers, without a call of the class; -1 behind an exception. */
    private int model(String name, int argument) throws Exception {
        try {
            return (Integer) Model.class.getMethod(name, int.class).invoke(model, argument);
        } catch (InvocationTargetException e) {
            return -1;
        }
    }

    private void everyByte() throws Exception {
        int level = random.nextInt(3);
        if (random.nextBoolean()) {
            call("writeFalls");
        } else {
            call("writePair", level, random.nextInt(4));
        }
        for (int i = 0; i < 25; i++) {
            call("textByte", i);
        }
    }

    private void give(String text) throws Exception {
        StringBuilder bytes = new StringBuilder(text);
        while (bytes.length() % 20 != 0) {
            bytes.append(random.nextBoolean() ? ' ' : 'x');
        }
        for (int at = 0; at < bytes.length(); at += 20) {
            int[] words = new int[5];
            for (int i = 0; i < 20; i++) {
                words[i / 4] = words[i / 4] << 8 | bytes.charAt(at + i);
            }
            call("append", words[0], words[1], words[2], words[3], words[4]);
        }
        if (random.nextInt(20) > 0) {
            call("load", Math.min(900, text.length()));
        }
        call("parseError");
        call("errorPosition");
    }

    private void some(int calls) throws Exception {
        for (int i = 0; i < calls; i++) {
            Method m = methods.get(random.nextInt(methods.size()));
            int[] arguments = new int[m.getParameterCount()];
            for (int a = 0; a < arguments.length; a++) {
                arguments[a] = argument();
            }
            if (random.nextInt(5) > 0) {
                fit(m.getName(), arguments);
            }
            call(m.getName(), arguments);
        }
    }

    /** Puts arguments that are likely to be in their bounds. */
    private void fit(String name, int[] arguments) throws Exception {
        if (PLACED.contains(" " + name + " ")) {
            arguments[0] = random.nextInt(Math.max(1, model("setting", 1)));
            arguments[1] = random.nextInt(Math.max(1, model("setting", 0) - arguments[0]));
        } else if (OF_CARDS.contains(" " + name + " ")) {
            arguments[0] = random.nextInt(Math.max(1, model("count", 0)));
        } else if (SHAKING.contains(" " + name + " ")) {
            arguments[0] = 1 + random.nextInt(99);
            arguments[1] = random.nextInt(Math.max(1, model("setting", 0)));
        } else if (name.equals("strengthOf")) {
            arguments[2] = 20 + random.nextInt(51);
        } else if (name.equals("save") || name.equals("restore")) {
            arguments[0] = random.nextInt(2);
        } else if (name.equals("fall") || name.equals("onHeap")) {
            arguments[0] = random.nextInt(3);
        }
    }

    private int argument() {
        switch (random.nextInt(12)) {
            case 0: return random.nextInt();
            case 1: return random.nextInt(3) - 1;
            case 2: return random.nextInt(100);
            case 3: return 19 + random.nextInt(53);
            case 4: return random.nextInt(12);
            default: return random.nextInt(5);
        }
    }

    private void call(String name, int... arguments) throws Exception {
        Class<?>[] kinds = new Class<?>[arguments.length];
        Object[] boxed = new Object[arguments.length];
        for (int i = 0; i < arguments.length; i++) {
            kinds[i] = int.class;
            boxed[i] = arguments[i];
        }
        Method m = CardCastle.class.getMethod(name, kinds);
        String got = answer(m, castle, boxed);
        String due = answer(Model.class.getMethod(name, kinds), model, boxed);
        made++;
        if (!got.startsWith("class")) {
            answered[methods.indexOf(m)]++;
        }
        c.same(story + ", call " + made + ": " + name + Arrays.toString(arguments), got, due);
    }

    private static String answer(Method m, Object of, Object[] arguments) throws Exception {
        try {
            return String.valueOf(m.invoke(of, arguments));
        } catch (InvocationTargetException e) {
            return String.valueOf(e.getCause().getClass());
        }
    }
}
