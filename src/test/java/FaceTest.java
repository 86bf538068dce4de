import java.io.IOException;
import java.lang.reflect.Constructor;
import java.lang.reflect.Field;
import java.lang.reflect.Method;
import java.lang.reflect.Modifier;
import java.nio.file.Files;
import java.nio.file.Path;
import java.util.ArrayList;
import java.util.HashSet;
import java.util.List;
import java.util.Set;
import java.util.TreeSet;
import java.util.regex.Matcher;
import java.util.regex.Pattern;

/** The public face is the document's, and the members keep to LANGUAGE.md. */
public final class FaceTest {
    private static final Checks c = new Checks();
    private static final Path DOCUMENT = Path.of("../shared/DOC.md");

    public static void main(String[] args) throws IOException {
        face();
        members();
        c.end("FaceTest");
    }

    /** Each line of the document's face, as the reflection would tell it. */
    private static void face() throws IOException {
        Set<String> due = new TreeSet<>();
        Matcher m = Pattern.compile("^    public (\\w+) (\\w+)\\((.*?)\\)( throws .*)?;$", Pattern.MULTILINE)
            .matcher(Files.readString(DOCUMENT));
        while (m.find()) {
            int parameters = m.group(3).isEmpty() ? 0 : m.group(3).split(",").length;
            due.add(m.group(1) + " " + m.group(2) + " " + parameters + thrown(m.group(4)));
        }
        Set<String> got = new TreeSet<>();
        for (Method method : CardCastle.class.getDeclaredMethods()) {
            if (Modifier.isPublic(method.getModifiers())) {
                StringBuilder names = new StringBuilder();
                for (Class<?> kind : method.getExceptionTypes()) {
                    names.append(' ').append(kind.getSimpleName());
                }
                got.add(method.getReturnType() + " " + method.getName() + " " + method.getParameterCount() + names);
            }
        }
        c.same("methods of the face", got.toString(), due.toString());
        c.same("how many", got.size(), 53);
    }

    private static String thrown(String clause) {
        return clause == null ? "" : clause.substring(7).replace(",", "");
    }

    private static void members() {
        Set<String> open = new HashSet<>();
        for (Method method : CardCastle.class.getDeclaredMethods()) {
            if (Modifier.isPublic(method.getModifiers())) {
                open.add(method.getName());
            }
        }
        List<Class<?>> all = new ArrayList<>(List.of(CardCastle.class.getDeclaredClasses()));
        c.holds("at most twelve classes", all.size() < 12);
        for (Class<?> inner : all) {
            int modifiers = inner.getModifiers();
            c.holds(inner + " is static and not public", Modifier.isStatic(modifiers) && !Modifier.isPublic(modifiers));
        }
        all.add(CardCastle.class);
        for (Class<?> kind : all) {
            for (Method method : kind.getDeclaredMethods()) {
                boolean outer = kind == CardCastle.class;
                int modifiers = method.getModifiers();
                c.holds(method + " is public or private", !outer || Modifier.isPublic(modifiers) || Modifier.isPrivate(modifiers));
                c.holds(method + " has a name of its own", outer && Modifier.isPublic(modifiers) || !open.contains(method.getName()));
                c.holds(method + " has at most seven parameters", method.getParameterCount() <= 7);
            }
            fields(kind);
        }
        for (Constructor<?> made : CardCastle.class.getDeclaredConstructors()) {
            c.holds("the constructor", Modifier.isPublic(made.getModifiers()) && made.getParameterCount() == 0);
        }
    }

    private static void fields(Class<?> kind) {
        int own = 0;
        for (Field field : kind.getDeclaredFields()) {
            int modifiers = field.getModifiers();
            own += Modifier.isStatic(modifiers) ? 0 : 1;
            c.holds(field + " is final if it is static", !Modifier.isStatic(modifiers) || Modifier.isFinal(modifiers));
            if (kind == CardCastle.class) {
                c.holds(field + " is private", Modifier.isPrivate(modifiers) != field.getName().equals("NONE"));
            }
        }
        c.holds(kind + " has at most twenty fields", own <= 20);
    }
}
