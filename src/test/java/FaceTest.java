import java.io.IOException;
import java.lang.reflect.Constructor;
import java.lang.reflect.Field;
import java.lang.reflect.Method;
import java.lang.reflect.Modifier;
import java.nio.file.Files;
import java.nio.file.Path;
import java.util.ArrayList;
import java.util.HashSet;
import java.util.List;
import java.util.Set;
import java.util.TreeSet;
import java.util.regex.Matcher;
import java.util.regex.Pattern;

/** The public face is the document's, and the source keeps to what LANGUAGE.md leaves. */
public final class FaceTest {
    private static final Checks c = new Checks();
    private static final Path DOCUMENT = Path.of("../shared/DOC.md");
    private static final Path SOURCE = Path.of("src/main/java/CardCastle.java");

    public static void main(String[] args) throws IOException {
        face();
        members();
        source(Files.readString(SOURCE));
        c.end("FaceTest");
    }

    /** Each line of the document's face, as the reflection would tell it. */
    private static void face() throws IOException {
        Set<String> due = new TreeSet<>();
        Matcher m = Pattern.compile("^    public (\\w+) (\\w+)\\((.*?)\\)( throws .*)?;$", Pattern.MULTILINE)
            .matcher(Files.readString(DOCUMENT));
        while (m.find()) {
            int parameters = m.group(3).isEmpty() ? 0 : m.group(3).split(",").length;
            due.add(m.group(1) + " " + m.group(2) + " " + parameters + thrown(m.group(4)));
        }
        Set<String> got = new TreeSet<>();
        for (Method method : CardCastle.class.getDeclaredMethods()) {
            if (Modifier.isPublic(method.getModifiers())) {
                StringBuilder names = new StringBuilder();
                for (Class<?> kind : method.getExceptionTypes()) {
                    names.append(' ').append(kind.getSimpleName());
                }
                got.add(method.getReturnType() + " " + method.getName() + " " + method.getParameterCount() + names);
            }
        }
        c.same("methods of the face", got.toString(), due.toString());
        c.same("how many", got.size(), 53);
    }

    private static String thrown(String clause) {
        return clause == null ? "" : clause.substring(7).replace(",", "");
    }

    private static void members() {
        Set<String> open = new HashSet<>();
        for (Method method : CardCastle.class.getDeclaredMethods()) {
            if (Modifier.isPublic(method.getModifiers())) {
                open.add(method.getName());
            }
        }
        List<Class<?>> all = new ArrayList<>(List.of(CardCastle.class.getDeclaredClasses()));
        c.holds("at most twelve classes", all.size() < 12);
        for (Class<?> inner : all) {
            int modifiers = inner.getModifiers();
            c.holds(inner + " is static and not public", Modifier.isStatic(modifiers) && !Modifier.isPublic(modifiers));
        }
        all.add(CardCastle.class);
        for (Class<?> kind : all) {
            for (Method method : kind.getDeclaredMethods()) {
                boolean outer = kind == CardCastle.class;
                int modifiers = method.getModifiers();
                c.holds(method + " is public or private", !outer || Modifier.isPublic(modifiers) || Modifier.isPrivate(modifiers));
                c.holds(method + " has a name of its own", outer && Modifier.isPublic(modifiers) || !open.contains(method.getName()));
                c.holds(method + " has at most seven parameters", method.getParameterCount() <= 7);
            }
            fields(kind);
        }
        for (Constructor<?> made : CardCastle.class.getDeclaredConstructors()) {
            c.holds("the constructor", Modifier.isPublic(made.getModifiers()) && made.getParameterCount() == 0);
        }
    }

    private static void fields(Class<?> kind) {
        int own = 0;
        for (Field field : kind.getDeclaredFields()) {
            int modifiers = field.getModifiers();
            own += Modifier.isStatic(modifiers) ? 0 : 1;
            c.holds(field + " is final if it is static", !Modifier.isStatic(modifiers) || Modifier.isFinal(modifiers));
            if (kind == CardCastle.class) {
                c.holds(field + " is private", Modifier.isPrivate(modifiers) != field.getName().equals("NONE"));
            }
        }
        c.holds(kind + " has at most twenty fields", own <= 20);
    }

    /** What may not stand in the source at all; comments and texts do not count. */
    private static void source(String text) {
        String code = text.replaceAll("(?s)/\\*.*?\\*/", "").replaceAll("//.*", "").replaceAll("\"[^\"\n]*\"", "T");
        String[] banned = {"->", "::", "\\btry\\b", "\\bcatch\\b", "\\bfinally\\b", "\\bsynchronized\\b", "\\bassert\\b",
            "Exact\\b", "static \\{", "\\bpackage\\b", "\\bprotected\\b", "T \\+", "\\+ T", "\\bvolatile\\b", "\\bnull\\b",
            "System\\.(?!arraycopy)", "\\bjava\\.(?!util\\.Arrays)", "while \\(true\\)", "for \\(;;\\)"};
        for (String word : banned) {
            c.holds("no " + word + " in the source", !Pattern.compile(word).matcher(code).find());
        }
        int start = 0;
        String[] lines = text.split("\n");
        for (int line = 0; line < lines.length; line++) {
            if (lines[line].matches("( {4}| {8})\\S.*\\) ?(throws .*)?\\{")) {
                start = line;
            }
            if (lines[line].matches("( {4}| {8})\\}")) {
                c.holds("the method that ends at line " + (line + 1) + " is short", line - start <= 60 || isClass(lines, line));
            }
            c.holds("line " + (line + 1) + " is plain ASCII", lines[line].chars().allMatch(sign -> sign >= 32 && sign < 127));
        }
        made(code);
    }

    private static boolean isClass(String[] lines, int end) {
        return lines[end].equals("    }") && end >= 1 && lines[end - 1].equals("        }");
    }

    /** Nothing is made but in a constructor, in a field's initialiser, or to be thrown. */
    private static void made(String code) {
        int makers = 0;
        for (String line : code.split("\n")) {
            boolean kept = line.contains("throw new ") || line.matches(".*\\bfinal .* = new .*;");
            makers += line.contains("new ") && !kept ? 1 : 0;
        }
        // saved[slot], castles[index], and cards, castle and tokens in constructors
        c.same("objects made elsewhere", makers, 5);
    }
}
