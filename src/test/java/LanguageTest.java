import java.io.DataInputStream;
import java.io.IOException;
import java.io.InputStream;
import java.nio.file.Files;
import java.nio.file.Path;
import java.util.ArrayList;
import java.util.HashMap;
import java.util.HashSet;
import java.util.List;
import java.util.Map;
import java.util.Set;
import java.util.TreeMap;
import java.util.TreeSet;

/**
 * What LANGUAGE.md rules out, as the compiled class shows it: its library and exceptions (rules 4, 6), joined texts
 * and lambdas (rules 2, 10), static state (rule 5), how deep calls go (rules 8, 11), and the length of methods.
 */
public final class LanguageTest {
    private static final Set<String> LIBRARY = Set.of("java/lang/Object.<init>()V", "java/lang/String.length()I",
            "java/lang/String.charAt(I)C", "java/lang/String.indexOf(I)I", "java/lang/Math.max(II)I",
            "java/lang/Math.min(II)I", "java/lang/Integer.bitCount(I)I", "java/lang/Long.bitCount(J)I",
            "java/lang/System.arraycopy(Ljava/lang/Object;ILjava/lang/Object;II)V", "java/util/Arrays.fill([II)V",
            "java/util/NoSuchElementException.<init>(Ljava/lang/String;)V");
    private static int wrong;

    private final String name;
    private final Object[] pool;
    private final Map<String, Set<String>> calls = new TreeMap<>();

    private LanguageTest(String name, DataInputStream in) throws IOException {
        this.name = name;
        in.readInt();
        in.readInt();
        pool = new Object[in.readUnsignedShort()];
        readPool(in);
        for (int i = 0; i < 3; i++) {
            in.readUnsignedShort();
        }
        in.skipBytes(2 * in.readUnsignedShort());
        readMembers(in, false);
        readMembers(in, true);
    }

    private static void due(boolean so, String what) {
        if (!so) {
            wrong++;
            System.out.println("not as due: " + what);
        }
    }

    private void readPool(DataInputStream in) throws IOException {
        for (int i = 1; i < pool.length; i++) {
            int tag = in.readUnsignedByte();
            switch (tag) {
                case 1 -> pool[i] = in.readUTF();
                case 3 -> pool[i] = in.readInt();
                case 5 -> pool[i++] = in.readLong();
                case 7, 8 -> pool[i] = new int[] {tag, in.readUnsignedShort()};
                case 9, 10, 11, 12 -> pool[i] = new int[] {tag, in.readUnsignedShort(), in.readUnsignedShort()};
                default -> throw new IOException(name + " has a constant of kind " + tag + ": a double, a float, a"
                        + " lambda, a method reference, or texts joined by +");
            }
        }
    }

    private String text(int at) {
        if (pool[at] instanceof String) {
            return (String) pool[at];
        }
        int[] parts = (int[]) pool[at];
        return parts[0] == 7 ? text(parts[1]) : parts[0] == 12 ? text(parts[1]) + text(parts[2])
                : text(parts[1]) + "." + text(parts[2]);
    }

    private void readMembers(DataInputStream in, boolean methods) throws IOException {
        for (int n = in.readUnsignedShort(); n > 0; n--) {
            int access = in.readUnsignedShort();
            String member = name + "." + text(in.readUnsignedShort()) + text(in.readUnsignedShort());
            due(methods || (access & 8) == 0 || (access & 16) != 0, member + " is static, but not final");
            due((access & 8) == 0 || !member.contains("<clinit>"), member + " is a static initialiser");
            due((access & 0x1000) == 0, member + " is synthetic");
            for (int a = in.readUnsignedShort(); a > 0; a--) {
                String attribute = text(in.readUnsignedShort());
                byte[] body = new byte[in.readInt()];
                in.readFully(body);
                if (attribute.equals("Code")) {
                    readCode(member, body);
                }
            }
        }
    }

    private static int two(byte[] b, int at) {
        return (b[at] & 255) << 8 | b[at + 1] & 255;
    }

    private static int four(byte[] b, int at) {
        return two(b, at) << 16 | two(b, at + 2);
    }

    private void readCode(String member, byte[] body) {
        int end = 8 + four(body, 4);
        due(two(body, end) == 0, member + " catches something");
        Set<String> called = calls.computeIfAbsent(member, m -> new TreeSet<>());
        for (int i = 8; i < end; i += step(body, i)) {
            int op = body[i] & 255;
            if (op >= 182 && op <= 185) {
                called.add(text(two(body, i + 1)));
            }
            due(op != 191 || member.startsWith("AxesAtDawn.fact(") || member.startsWith("AxesAtDawn.parted("),
                    member + " throws");
            due(op < 194 || op > 195, member + " is synchronized");
        }
    }

    /** How many bytes an order of the machine has; those of switches are filled up to a multiple of four. */
    private static int step(byte[] body, int i) {
        int op = body[i] & 255;
        int filled = i + 4 - (i - 8) % 4;
        if (op == 170) {
            return filled + 12 + 4 * (four(body, filled + 8) - four(body, filled + 4) + 1) - i;
        }
        if (op == 171) {
            return filled + 8 + 8 * four(body, filled + 4) - i;
        }
        if (op == 196) {
            return (body[i + 1] & 255) == 132 ? 6 : 4;
        }
        if (op == 185 || op == 186 || op == 200 || op == 201) {
            return 5;
        }
        if (op == 197) {
            return 4;
        }
        boolean two = op == 16 || op == 18 || op >= 21 && op <= 25 || op >= 54 && op <= 58 || op == 169 || op == 188;
        boolean three = op == 17 || op == 19 || op == 20 || op == 132 || op >= 153 && op <= 168
                || op >= 178 && op <= 184 || op == 187 || op == 189 || op == 192 || op == 193 || op == 198 || op == 199;
        return two ? 2 : three ? 3 : 1;
    }

    private void library() {
        for (int i = 1; i < pool.length; i++) {
            if (pool[i] instanceof int[] ref && ref[0] >= 9 && ref[0] <= 11) {
                String used = text(i);
                due(used.startsWith("AxesAtDawn") || used.startsWith("[") && used.endsWith(".clone()Ljava/lang/Object;")
                        || LIBRARY.contains(used), name + " uses " + used);
            }
        }
    }

    /** How deep calls go from here, calls within a recursion left out. */
    private static int deep(String member, Map<String, Set<String>> calls, List<String> open,
            Map<String, Integer> done) {
        if (done.containsKey(member)) {
            return done.get(member);
        }
        int deepest = 0;
        open.add(member);
        for (String next : calls.getOrDefault(member, Set.of())) {
            if (!open.contains(next) && calls.containsKey(next)) {
                deepest = Math.max(deepest, deep(next, calls, open, done));
            }
        }
        open.remove(member);
        boolean recursive = reaches(member, member, calls, new HashSet<>());
        done.put(member, deepest + (recursive ? 0 : 1));
        return done.get(member);
    }

    private static boolean reaches(String from, String to, Map<String, Set<String>> calls, Set<String> been) {
        for (String next : calls.getOrDefault(from, Set.of())) {
            if (next.equals(to) || been.add(next) && reaches(next, to, calls, been)) {
                return true;
            }
        }
        return false;
    }

    private static void methods() throws IOException {
        List<String> lines = Files.readAllLines(Path.of("src/main/java/AxesAtDawn.java"));
        int start = 0;
        for (int i = 0; i < lines.size(); i++) {
            String line = lines.get(i);
            if (line.matches("( {4}| {8})[^ ].*[(].*[{]") && !line.matches(" *(}|if|for|while|switch|do)\\b.*")) {
                start = i;
            }
            if (line.equals("    }") || line.equals("        }")) {
                due(i - start < 62, "a long method at line " + (start + 1));
            }
            due(line.length() <= 120, "a line of more than 120 signs: " + (i + 1));
        }
        due(start > 0, "methods were found");
    }

    public static void main(String[] args) throws IOException {
        Map<String, Set<String>> calls = new HashMap<>();
        List<Class<?>> classes = new ArrayList<>(List.of(AxesAtDawn.class.getDeclaredClasses()));
        classes.add(AxesAtDawn.class);
        due(classes.size() <= 12, "at most some twelve classes");
        for (Class<?> c : classes) {
            try (InputStream in = AxesAtDawn.class.getResourceAsStream(c.getName() + ".class")) {
                LanguageTest one = new LanguageTest(c.getName(), new DataInputStream(in));
                one.library();
                calls.putAll(one.calls);
                due(c.getDeclaredClasses().length == 0 || c == AxesAtDawn.class, c + " has classes inside");
            }
        }
        Map<String, Integer> done = new HashMap<>();
        int deepest = 0;
        for (String member : calls.keySet()) {
            int deep = deep(member, calls, new ArrayList<>(), done);
            deepest = Math.max(deepest, deep);
            due(deep <= 8, member + " calls " + deep + " deep");
        }
        due(deepest > 4, "calls were read, but go only " + deepest + " deep");
        methods();
        System.out.println(wrong == 0 ? "the language is kept, calls go " + deepest + " deep" : wrong + " not as due");
        if (wrong != 0) {
            System.exit(1);
        }
    }
}
