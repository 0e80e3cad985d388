import java.io.ByteArrayInputStream;
import java.io.DataInputStream;
import java.io.IOException;
import java.io.InputStream;
import java.lang.reflect.Array;
import java.lang.reflect.Field;
import java.lang.reflect.Modifier;
import java.util.ArrayDeque;
import java.util.ArrayList;
import java.util.Deque;
import java.util.HashMap;
import java.util.IdentityHashMap;
import java.util.List;
import java.util.Map;
import java.util.Set;
import java.util.TreeMap;
import java.util.TreeSet;

/**
 * What of ../shared/LANGUAGE.md can be told from the compiled code alone: who calls whom and how deep, what of the library
 * is called, where objects are made, that nothing is thrown or caught.
 */
public final class SkinTentCompiled {
    private static final int DEEPEST = 8, MOST_OBJECTS = 120, MOST_ELEMENTS = 2400;
    private static final Set<String> LIBRARY = Set.of(
        "java/lang/Object.<init>", "java/lang/System.arraycopy", "[I.clone",
        "java/lang/String.length", "java/lang/String.charAt", "java/lang/Math.min", "java/lang/Math.max", "java/lang/Math.floorMod");
    private static int wrong = 0;
    // By class and name with kind: what it calls.
    private static final Map<String, Set<String>> calls = new TreeMap<>();
    private static final Set<String> privateStatic = new TreeSet<>();

    public static void main(String[] args) throws IOException, IllegalAccessException {
        List<Class<?>> classes = new ArrayList<>(List.of(SkinTent.class.getDeclaredClasses()));
        classes.add(SkinTent.class);
        for (Class<?> one : classes) {
            try (InputStream in = one.getResourceAsStream("/" + one.getName() + ".class")) {
                new ClassFile(in.readAllBytes()).read();
            }
        }
        need(calls.size() > 100, "methods found: " + calls.size());
        depth();
        recursion();
        room();
        System.out.println(wrong == 0 ? "the compiled code is as it should be" : wrong + " faults of the compiled code");
        if (wrong != 0) {
            System.exit(1);
        }
    }

    private static void need(boolean holds, String what) {
        if (!holds) {
            wrong++;
            System.out.println(what);
        }
    }

    private static void depth() {
        Map<String, Integer> known = new HashMap<>();
        for (String method : calls.keySet()) {
            int deep = deep(method, known, new ArrayDeque<>());
            need(deep <= DEEPEST, "11: " + deep + " calls deep from " + method);
        }
    }

    /** How many calls stand open at most, this one counted; a call of itself is recursion. */
    private static int deep(String method, Map<String, Integer> known, Deque<String> open) {
        Integer before = known.get(method);
        if (before != null) {
            return before;
        }
        int deepest = 0;
        open.push(method);
        for (String called : calls.getOrDefault(method, Set.of())) {
            if (!open.contains(called)) {
                deepest = Math.max(deepest, deep(called, known, open));
            }
        }
        open.pop();
        known.put(method, deepest + 1);
        return deepest + 1;
    }

    private static void recursion() {
        for (String method : calls.keySet()) {
            Set<String> reached = new TreeSet<>();
            reach(method, reached);
            if (reached.contains(method)) {
                need(calls.get(method).contains(method) && privateStatic.contains(method), "8: recursion of " + method);
            }
        }
    }

    private static void reach(String method, Set<String> reached) {
        for (String called : calls.getOrDefault(method, Set.of())) {
            if (reached.add(called)) {
                reach(called, reached);
            }
        }
    }

    /** All that hangs on one object, each once. */
    private static void room() throws IllegalAccessException {
        Map<Object, Boolean> seen = new IdentityHashMap<>();
        Deque<Object> open = new ArrayDeque<>();
        long elements = 0;
        open.push(new SkinTent());
        while (!open.isEmpty()) {
            Object one = open.pop();
            if (seen.put(one, true) != null) {
                continue;
            }
            if (one.getClass().isArray()) {
                elements += Array.getLength(one);
                for (int i = 0; one instanceof Object[] && i < Array.getLength(one); i++) {
                    pushIfAny(open, Array.get(one, i));
                }
                continue;
            }
            for (Field field : one.getClass().getDeclaredFields()) {
                if (!Modifier.isStatic(field.getModifiers())) {
                    elements++;
                    field.setAccessible(true);
                    if (!field.getType().isPrimitive()) {
                        pushIfAny(open, field.get(one));
                    }
                }
            }
        }
        need(seen.size() <= MOST_OBJECTS, "12: objects and arrays of a tent: " + seen.size());
        need(elements <= MOST_ELEMENTS, "12: fields and elements of a tent: " + elements);
    }

    private static void pushIfAny(Deque<Object> open, Object one) {
        if (one != null) {
            open.push(one);
        }
    }

    /** A class file, as far as it matters here. */
    private static final class ClassFile {
        private static final int PRIVATE_STATIC = 0x0002 | 0x0008;
        private final DataInputStream in;
        private Object[] constants = {};
        private String name = "";

        ClassFile(byte[] bytes) {
            in = new DataInputStream(new ByteArrayInputStream(bytes));
        }

        void read() throws IOException {
            in.readInt();
            in.readInt();
            readConstants();
            in.readUnsignedShort();
            name = nameOf(in.readUnsignedShort());
            in.readUnsignedShort();
            in.skipBytes(2 * in.readUnsignedShort());
            for (int left = in.readUnsignedShort(); left > 0; left--) {
                in.skipBytes(6);
                skipAttributes();
            }
            for (int left = in.readUnsignedShort(); left > 0; left--) {
                readMethod();
            }
        }

        private void readConstants() throws IOException {
            constants = new Object[in.readUnsignedShort()];
            for (int i = 1; i < constants.length; i++) {
                int tag = in.readUnsignedByte();
                switch (tag) {
                    case 1 -> constants[i] = in.readUTF();
                    case 3, 4 -> in.skipBytes(4);
                    case 5, 6 -> {
                        in.skipBytes(8);
                        i++;
                    }
                    case 7 -> constants[i] = new int[] {in.readUnsignedShort()};
                    case 8, 16, 19, 20 -> in.skipBytes(2);
                    case 9, 10, 11, 12, 17, 18 -> constants[i] = new int[] {in.readUnsignedShort(), in.readUnsignedShort()};
                    case 15 -> in.skipBytes(3);
                    default -> throw new IOException("constant of kind " + tag);
                }
            }
        }

        private String text(int index) {
            return (String) constants[index];
        }

        private String nameOf(int classIndex) {
            return text(((int[]) constants[classIndex])[0]);
        }

        private void skipAttributes() throws IOException {
            for (int left = in.readUnsignedShort(); left > 0; left--) {
                in.skipBytes(2);
                in.skipBytes(in.readInt());
            }
        }

        private void readMethod() throws IOException {
            int flags = in.readUnsignedShort();
            String method = name + "." + text(in.readUnsignedShort()) + text(in.readUnsignedShort());
            calls.put(method, new TreeSet<>());
            if ((flags & PRIVATE_STATIC) == PRIVATE_STATIC) {
                privateStatic.add(method);
            }
            need((flags & 0x0020) == 0, "6: synchronized: " + method);
            for (int left = in.readUnsignedShort(); left > 0; left--) {
                String kind = text(in.readUnsignedShort());
                int length = in.readInt();
                if (!kind.equals("Code")) {
                    in.skipBytes(length);
                    continue;
                }
                in.skipBytes(4);
                byte[] code = new byte[in.readInt()];
                in.readFully(code);
                walk(method, code);
                int caught = in.readUnsignedShort();
                need(caught == 0, "6: catches: " + method);
                in.skipBytes(8 * caught);
                skipAttributes();
            }
        }

        private void walk(String method, byte[] code) {
            boolean makes = method.contains(".<init>") || method.contains(".<clinit>");
            for (int at = 0; at < code.length; at += lengthOf(code, at)) {
                int what = code[at] & 255;
                int index = at + 2 < code.length ? shortAt(code, at + 1) : 0;
                need(what != 191, "6: throws: " + method);
                need(what < 194 || what > 195, "6: synchronized: " + method);
                need(what != 186, "2: lambda, or text joined by +: " + method);
                need(what < 187 || what > 189 && what != 197 || makes, "12: makes an object: " + method);
                need(what != 179 || method.contains(".<clinit>"), "5: changes a static field: " + method);
                need(what != 192 || nameOf(index).equals("[I"), "6: cast: " + method);
                if (what >= 182 && what <= 185) {
                    called(method, index, makes);
                }
            }
        }

        private void called(String method, int index, boolean makes) {
            int[] owner = (int[]) constants[index];
            int[] signature = (int[]) constants[owner[1]];
            String whose = nameOf(owner[0]);
            String which = whose + "." + text(signature[0]);
            if (!whose.startsWith("SkinTent")) {
                need(LIBRARY.contains(which), "4: " + which + " in " + method);
                need(!which.endsWith(".clone") || makes, "12: makes an object: " + method);
            }
            // The constructor of Object does nothing.
            if (!which.equals("java/lang/Object.<init>")) {
                calls.get(method).add(which + text(signature[1]));
            }
        }

        private static int shortAt(byte[] code, int at) {
            return (code[at] & 255) << 8 | code[at + 1] & 255;
        }

        private static int intAt(byte[] code, int at) {
            return shortAt(code, at) << 16 | shortAt(code, at + 2);
        }

        private static int lengthOf(byte[] code, int at) {
            int what = code[at] & 255;
            int aligned = at + 4 & ~3;
            switch (what) {
                case 170:
                    return aligned + 12 + 4 * (intAt(code, aligned + 8) - intAt(code, aligned + 4) + 1) - at;
                case 171:
                    return aligned + 8 + 8 * intAt(code, aligned + 4) - at;
                case 196:
                    return (code[at + 1] & 255) == 132 ? 6 : 4;
                case 16: case 18: case 188:
                    return 2;
                case 17: case 19: case 20: case 132:
                    return 3;
                case 185: case 186: case 200: case 201:
                    return 5;
                case 197:
                    return 4;
                default:
                    break;
            }
            if (what >= 21 && what <= 25 || what >= 54 && what <= 58 || what == 169) {
                return 2;
            }
            boolean hasTwo = what >= 153 && what <= 168 || what >= 178 && what <= 184 || what == 187 || what == 189
                || what == 192 || what == 193 || what == 198 || what == 199;
            return hasTwo ? 3 : 1;
        }
    }
}
