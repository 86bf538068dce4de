import java.io.ByteArrayInputStream;
import java.io.DataInputStream;
import java.io.IOException;
import java.io.InputStream;
import java.util.ArrayList;
import java.util.List;
import java.util.Set;
import java.util.TreeSet;

/** What the compiler made of a class: its methods, and what each of them calls, makes and catches. */
final class ClassFile {
    /** A method, told as Class.name and its descriptor. */
    static final class Body {
        final String name;
        final Set<String> calls = new TreeSet<>();
        final Set<String> makes = new TreeSet<>();
        final Set<Integer> codes = new TreeSet<>();
        int catches = 0;

        Body(String name) {
            this.name = name;
        }

        boolean isConstructor() {
            return name.contains(".<init>");
        }
    }

    private static final int FIRST_CALL = 182;
    private static final int LAST_CALL = 186;
    private static final int FIRST_MAKER = 187;
    private static final int LAST_MAKER = 189;

    // The bytes of an instruction by its code; 0 where the code alone does not tell it.
    private static final String LENGTHS = "1".repeat(16) + "2323322222" + "1".repeat(28) + "22222" + "1".repeat(73)
        + "3" + "1".repeat(20) + "3".repeat(16) + "200" + "111111" + "3333333" + "55" + "323" + "11" + "33" + "11"
        + "0" + "4" + "33" + "55";

    final List<Body> methods = new ArrayList<>();
    private final Object[] texts;
    private final int[] left;
    private final int[] right;
    private final String own;

    ClassFile(Class<?> kind) throws IOException {
        byte[] bytes;
        try (InputStream in = kind.getResourceAsStream("/" + kind.getName() + ".class")) {
            bytes = in.readAllBytes();
        }
        DataInputStream in = new DataInputStream(new ByteArrayInputStream(bytes));
        in.skipBytes(8);
        int constants = in.readUnsignedShort();
        texts = new Object[constants];
        left = new int[constants];
        right = new int[constants];
        readConstants(in, constants);
        in.skipBytes(2);
        own = className(in.readUnsignedShort());
        in.skipBytes(2);
        in.skipBytes(2 * in.readUnsignedShort());
        readMembers(in, false);
        readMembers(in, true);
    }

    private void readConstants(DataInputStream in, int constants) throws IOException {
        for (int at = 1; at < constants; at++) {
            int tag = in.readUnsignedByte();
            switch (tag) {
                case 1 -> texts[at] = in.readUTF();
                case 3, 4 -> in.skipBytes(4);
                case 5, 6 -> {
                    in.skipBytes(8);
                    at++;
                }
                case 7, 8, 16, 19, 20 -> left[at] = in.readUnsignedShort();
                case 15 -> in.skipBytes(3);
                default -> {
                    left[at] = in.readUnsignedShort();
                    right[at] = in.readUnsignedShort();
                }
            }
        }
    }

    private String className(int at) {
        return (String) texts[left[at]];
    }

    /** A call's target; of an invokedynamic, whose left part is no class, only that it is one. */
    private String target(int at, int code) {
        int pair = right[at];
        String name = texts[left[pair]] + (String) texts[right[pair]];
        return code == LAST_CALL ? "dynamic " + name : className(left[at]) + "." + name;
    }

    private void readMembers(DataInputStream in, boolean areMethods) throws IOException {
        int members = in.readUnsignedShort();
        for (int member = 0; member < members; member++) {
            in.skipBytes(2);
            String name = (String) texts[in.readUnsignedShort()];
            Body body = new Body(own + "." + name + texts[in.readUnsignedShort()]);
            readAttributes(in, body);
            if (areMethods) {
                methods.add(body);
            }
        }
    }

    private void readAttributes(DataInputStream in, Body body) throws IOException {
        int attributes = in.readUnsignedShort();
        for (int attribute = 0; attribute < attributes; attribute++) {
            Object name = texts[in.readUnsignedShort()];
            byte[] content = in.readNBytes(in.readInt());
            if ("Code".equals(name)) {
                readCode(content, body);
            }
        }
    }

    private void readCode(byte[] content, Body body) {
        int length = four(content, 4);
        int at = 0;
        while (at < length) {
            int code = content[8 + at] & 255;
            int operand = two(content, 8 + at + 1);
            body.codes.add(code);
            if (code >= FIRST_CALL && code <= LAST_CALL) {
                body.calls.add(target(operand, code));
            }
            if (code == FIRST_MAKER) {
                body.makes.add(className(operand));
            } else if (code > FIRST_MAKER && code <= LAST_MAKER || code == 197) {
                body.makes.add("an array");
            }
            at += lengthAt(content, at, code);
        }
        body.catches = two(content, 8 + length);
    }

    private static int lengthAt(byte[] content, int at, int code) {
        int known = LENGTHS.charAt(code) - '0';
        if (known > 0) {
            return known;
        }
        if (code == 196) {
            return (content[8 + at + 1] & 255) == 132 ? 6 : 4;
        }
        int pad = (at + 4) / 4 * 4;
        if (code == 170) {
            return pad - at + 12 + 4 * (four(content, 8 + pad + 8) - four(content, 8 + pad + 4) + 1);
        }
        return pad - at + 8 + 8 * four(content, 8 + pad + 4);
    }

    private static int two(byte[] bytes, int at) {
        return (bytes[at] & 255) << 8 | bytes[at + 1] & 255;
    }

    private static int four(byte[] bytes, int at) {
        return two(bytes, at) << 16 | two(bytes, at + 2);
    }
}
