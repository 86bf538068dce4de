import java.io.IOException;
import java.lang.reflect.Constructor;
import java.lang.reflect.Field;
import java.lang.reflect.Method;
import java.lang.reflect.Modifier;
import java.nio.file.Files;
import java.nio.file.Path;
import java.util.ArrayList;
import java.util.HashSet;
import java.util.List;
import java.util.Set;
import java.util.TreeSet;
import java.util.regex.Matcher;
import java.util.regex.Pattern;

/** The public face is the document's, and the members keep to LANGUAGE.md. */
public final class FaceTest {
    private static final Checks c = new Checks();
    private static final Path DOCUMENT = Path.of("../shared/DOC.md");
    private static final Path SOURCE = Path.of("src/main/java/CardCastle.java");

    public static void main(String[] args) throws IOException {
        face();
        members();
        c.end("FaceTest");
    }

    /** Each line of the document's face stands in the source, and nothing else is public. */
    private static void face() throws IOException {
        String source = Files.readString(SOURCE);
        Set<String> due = new TreeSet<>();
        Matcher line = Pattern.compile("^    public (\\w+ \\w+\\(.*\\).*);$", Pattern.MULTILINE)
            .matcher(Files.readString(DOCUMENT));
        while (line.find()) {
            due.add(line.group(1).replaceAll(".* (\\w+)\\(.*", "$1"));
            c.holds("in the source: " + line.group(1), source.contains("    public " + line.group(1) + " {\n"));
        }
        Set<String> got = new TreeSet<>();
        int open = 0;
        for (Method method : CardCastle.class.getDeclaredMethods()) {
            if (Modifier.isPublic(method.getModifiers())) {
                got.add(method.getName());
                open++;
            }
        }
        c.same("methods of the face", got.toString(), due.toString());
        c.same("how many", open, 53);
        c.same("the class", Modifier.toString(CardCastle.class.getModifiers()), "public final");
        c.same("what it extends", CardCastle.class.getSuperclass().getName(), "java.lang.Object");
        c.same("what it implements", CardCastle.class.getInterfaces().length, 0);
        c.holds("NONE as the document has it", source.contains("    public static final int NONE = -1;\n"));
        c.holds("the constructor as the document has it", source.contains("    public CardCastle() {\n"));
    }

    private static void members() {
        Set<String> open = new HashSet<>();
        for (Method method : CardCastle.class.getDeclaredMethods()) {
            if (Modifier.isPublic(method.getModifiers())) {
                open.add(method.getName());
            }
        }
        List<Class<?>> all = new ArrayList<>(List.of(CardCastle.class.getDeclaredClasses()));
        c.holds("at most twelve classes", all.size() < 12);
        for (Class<?> inner : all) {
            int modifiers = inner.getModifiers();
            c.holds(inner + " is static and not public", Modifier.isStatic(modifiers) && !Modifier.isPublic(modifiers));
        }
        all.add(CardCastle.class);
        for (Class<?> kind : all) {
            for (Method method : kind.getDeclaredMethods()) {
                boolean outer = kind == CardCastle.class;
                int modifiers = method.getModifiers();
                c.holds(method + " is public or private", !outer || Modifier.isPublic(modifiers) || Modifier.isPrivate(modifiers));
                c.holds(method + " has a name of its own", outer && Modifier.isPublic(modifiers) || !open.contains(method.getName()));
                c.holds(method + " has at most seven parameters", method.getParameterCount() <= 7);
            }
            fields(kind);
        }
        for (Constructor<?> made : CardCastle.class.getDeclaredConstructors()) {
            c.holds("the constructor", Modifier.isPublic(made.getModifiers()) && made.getParameterCount() == 0);
        }
    }

    private static void fields(Class<?> kind) {
        int own = 0;
        for (Field field : kind.getDeclaredFields()) {
            int modifiers = field.getModifiers();
            own += Modifier.isStatic(modifiers) ? 0 : 1;
            c.holds(field + " is final if it is static", !Modifier.isStatic(modifiers) || Modifier.isFinal(modifiers));
            if (kind == CardCastle.class) {
                c.holds(field + " is private", Modifier.isPrivate(modifiers) != field.getName().equals("NONE"));
            }
        }
        c.holds(kind + " has at most twenty fields", own <= 20);
    }
}
