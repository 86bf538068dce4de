import java.io.IOException;
import java.lang.reflect.Array;
import java.lang.reflect.Field;
import java.lang.reflect.Modifier;
import java.nio.file.Files;
import java.nio.file.Path;
import java.util.ArrayDeque;
import java.util.ArrayList;
import java.util.Deque;
import java.util.HashMap;
import java.util.IdentityHashMap;
import java.util.List;
import java.util.Map;
import java.util.Set;
import java.util.TreeSet;
import java.util.regex.Pattern;

/** The program keeps to LANGUAGE.md, as far as its source, its compiled methods and its objects tell. */
public final class LanguageTest {
    private static final Checks c = new Checks();
    private static final Path SOURCE = Path.of("src/main/java/CardCastle.java");
    private static final int DEEPEST = 8;
    private static final int MOST_OBJECTS = 250;
    private static final int MOST_ELEMENTS = 13000;

    // Of rule 4, what the program calls; and what a constructor and an exception call.
    private static final Set<String> LIBRARY = Set.of(
        "java/lang/Math.abs(I)I", "java/lang/Math.max(II)I", "java/lang/Math.min(II)I",
        "java/lang/String.length()I", "java/lang/String.charAt(I)C",
        "java/lang/System.arraycopy(Ljava/lang/Object;ILjava/lang/Object;II)V",
        "java/util/Arrays.fill([II)V", "java/lang/Object.<init>()V",
        "java/lang/IllegalStateException.<init>(Ljava/lang/String;)V",
        "java/lang/IllegalArgumentException.<init>(Ljava/lang/String;)V",
        "java/lang/IndexOutOfBoundsException.<init>(Ljava/lang/String;)V");

    private static final int THROW = 191;
    private static final int CAST = 192;

    public static void main(String[] args) throws IOException {
        source(Files.readString(SOURCE));
        Map<String, ClassFile.Body> bodies = bodies();
        for (ClassFile.Body body : bodies.values()) {
            method(body);
        }
        recursion(bodies);
        depths(bodies);
        room();
        c.end("LanguageTest");
    }

    // ---- the source

    /** What may not stand in the source at all; comments and texts do not count. */
    private static void source(String text) {
        String code = text.replaceAll("(?s)/\\*.*?\\*/", "").replaceAll("//.*", "").replaceAll("\"[^\"\n]*\"", "T");
        String[] banned = {"->", "::", "\\btry\\b", "\\bcatch\\b", "\\bfinally\\b", "\\bsynchronized\\b", "\\bassert\\b",
            "Exact\\b", "static \\{", "\\bpackage\\b", "\\bprotected\\b", "T \\+", "\\+ T", "\\bvolatile\\b", "\\bnull\\b",
            "System\\.(?!arraycopy)", "\\bjava\\.(?!util\\.Arrays)", "while \\(true\\)", "for \\(;;\\)"};
        for (String word : banned) {
            c.holds("no " + word + " in the source", !Pattern.compile(word).matcher(code).find());
        }
        int start = 0;
        String[] lines = text.split("\n");
        for (int line = 0; line < lines.length; line++) {
            if (lines[line].matches("( {4}| {8})\\S.*\\) ?(throws .*)?\\{")) {
                start = line;
            }
            if (lines[line].matches("( {4}| {8})\\}")) {
                c.holds("the method that ends at line " + (line + 1) + " is short", line - start <= 60 || isClass(lines, line));
            }
            c.holds("line " + (line + 1) + " is plain ASCII", lines[line].chars().allMatch(sign -> sign >= 32 && sign < 127));
        }
    }

    private static boolean isClass(String[] lines, int end) {
        return lines[end].equals("    }") && end >= 1 && lines[end - 1].equals("        }");
    }

    // ---- the compiled methods

    private static Map<String, ClassFile.Body> bodies() throws IOException {
        List<Class<?>> kinds = new ArrayList<>(List.of(CardCastle.class.getDeclaredClasses()));
        kinds.add(CardCastle.class);
        Map<String, ClassFile.Body> bodies = new HashMap<>();
        for (Class<?> kind : kinds) {
            for (ClassFile.Body body : new ClassFile(kind).methods) {
                bodies.put(body.name, body);
            }
        }
        c.holds("there are many methods", bodies.size() > 150);
        return bodies;
    }

    private static void method(ClassFile.Body body) {
        c.same(body.name + " catches", body.catches, 0);
        c.holds(body.name + " casts no reference", !body.codes.contains(CAST));
        c.holds(body.name + " throws nothing if it is a constructor", !body.isConstructor() || !body.codes.contains(THROW));
        for (String call : body.calls) {
            c.holds(body.name + " calls only what it may: " + call, call.startsWith("CardCastle") || LIBRARY.contains(call));
        }
        boolean written = body.isConstructor() || body.name.contains(".<clinit>");
        for (String kind : body.makes) {
            c.holds(body.name + " makes nothing but exceptions: " + kind, written || kind.endsWith("Exception"));
        }
    }

    /** The two falls call each other; nothing else comes back to itself. */
    private static void recursion(Map<String, ClassFile.Body> bodies) {
        Set<String> back = new TreeSet<>();
        for (String name : bodies.keySet()) {
            if (reached(name, bodies).contains(name)) {
                back.add(name.replaceAll("\\(.*", ""));
            }
        }
        c.same("methods that call themselves", back.toString(), "[CardCastle$Castle.dropFlat, CardCastle$Castle.dropPair]");
    }

    /** All that a method calls, and what that calls. */
    private static Set<String> reached(String start, Map<String, ClassFile.Body> bodies) {
        Set<String> reached = new TreeSet<>();
        Deque<String> open = new ArrayDeque<>(List.of(start));
        while (!open.isEmpty()) {
            ClassFile.Body body = bodies.get(open.pop());
            for (String call : body == null ? Set.<String>of() : body.calls) {
                if (reached.add(call)) {
                    open.push(call);
                }
            }
        }
        return reached;
    }

    private static void depths(Map<String, ClassFile.Body> bodies) {
        for (String name : bodies.keySet()) {
            int depth = depth(name, bodies, new ArrayList<>());
            c.holds(name + " goes " + depth + " deep", depth <= DEEPEST);
        }
    }

    /** How many calls stand open at once below a method, itself too, the library's too; a call that comes back is left out. */
    private static int depth(String name, Map<String, ClassFile.Body> bodies, List<String> open) {
        ClassFile.Body body = bodies.get(name);
        if (body == null) {
            return 1;
        }
        open.add(name);
        int deepest = 0;
        for (String call : body.calls) {
            if (!open.contains(call)) {
                deepest = Math.max(deepest, depth(call, bodies, open));
            }
        }
        open.remove(open.size() - 1);
        return deepest + 1;
    }

    // ---- the room

    /** An object keeps all its rows from the start, and they are few. */
    private static void room() {
        CardCastle x = new CardCastle();
        String empty = roomOf(x);
        Checks.load(x, Checks.deck("12 8 1 0 0 0", 40, 9, 1));
        Checks.pyramid(x, 5);
        for (int call = 0; call < 9; call++) {
            x.tremor(99, 0);
        }
        x.save(0);
        x.save(1);
        x.undo();
        x.restore(1);
        x.writeFalls();
        c.same("the room that an object takes", roomOf(x), empty);
    }

    private static String roomOf(Object start) {
        Map<Object, Boolean> seen = new IdentityHashMap<>();
        Deque<Object> open = new ArrayDeque<>();
        meet(start, seen, open);
        int elements = 0;
        while (!open.isEmpty()) {
            Object next = open.pop();
            if (next.getClass().isArray()) {
                elements += Array.getLength(next);
                for (int at = 0; next instanceof Object[] && at < Array.getLength(next); at++) {
                    meet(Array.get(next, at), seen, open);
                }
            } else {
                elements += meetFields(next, seen, open);
            }
        }
        c.holds(seen.size() + " objects are few", seen.size() <= MOST_OBJECTS);
        c.holds(elements + " fields and elements are few", elements <= MOST_ELEMENTS);
        return seen.size() + " objects, " + elements + " fields and elements";
    }

    private static int meetFields(Object holder, Map<Object, Boolean> seen, Deque<Object> open) {
        int fields = 0;
        for (Field field : holder.getClass().getDeclaredFields()) {
            if (Modifier.isStatic(field.getModifiers())) {
                continue;
            }
            fields++;
            try {
                field.setAccessible(true);
                if (!field.getType().isPrimitive()) {
                    meet(field.get(holder), seen, open);
                }
            } catch (IllegalAccessException e) {
                c.holds(field + " can be read", false);
            }
        }
        return fields;
    }

    private static void meet(Object next, Map<Object, Boolean> seen, Deque<Object> open) {
        if (next != null && seen.put(next, true) == null) {
            open.push(next);
        }
    }
}
