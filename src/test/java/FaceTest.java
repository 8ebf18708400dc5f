import java.io.IOException;
import java.lang.reflect.Constructor;
import java.lang.reflect.Field;
import java.lang.reflect.Method;
import java.lang.reflect.Modifier;
import java.nio.file.Files;
import java.nio.file.Path;
import java.util.Arrays;
import java.util.HashSet;
import java.util.List;
import java.util.NoSuchElementException;
import java.util.Set;
import java.util.TreeSet;

/** The face as the document tells it and no member more, and what LANGUAGE.md rules out by its mere look. */
public final class FaceTest {
    private static final String[] FACE = {"boolean layer(int,int,int)", "boolean way(int,int,int)",
        "boolean here(int,int,int,int,int)", "int find(int,int,int,int,int,int,int)", "int feed(long,long,long)",
        "int law()", "int present(int,int,int)", "int fact(int,int)", "int each(int)", "int stops(int,int)",
        "int row(int,int,int)", "long odds(int,int,int)", "long luck(int,int,int,int,int)", "int can(int)",
        "boolean seen(int,int,int)", "int may(int)", "int put(int)", "int stories(int)",
        "boolean ground(int,long,int)", "int standing(int)", "int oldest(int)", "int cut(int,int)",
        "int doubted(int)", "int settled()", "int again(int,int)", "int where(int,int)", "int rules(int)",
        "boolean paper(int)", "int enough()", "boolean mark(int,boolean)", "boolean skill(int,int,int)",
        "boolean wealth(int,int,int)", "boolean shows(int,int,int)", "int world(int,int)", "int found(int,int,int)",
        "int rates(int,int)", "int parted(int,int)", "int count(int)"};
    private static final List<String> RULED_OUT = List.of("->", "::", "finally", "synchronized", "assert ", "try",
        "catch", "getMessage", "Exact(", "Object ", "HashMap", "boolean[][]", "static {", "System.out", "Random",
        "Thread", "volatile", "var ", "double", "float", "Arrays.fill(refuted", "package ", "protected");
    private static int wrong;

    private static void due(boolean so, String what) {
        if (!so) {
            wrong++;
            System.out.println("not as due: " + what);
        }
    }

    private static String signature(Method m) {
        StringBuilder text = new StringBuilder(m.getReturnType() + " " + m.getName() + "(");
        Class<?>[] types = m.getParameterTypes();
        for (int i = 0; i < types.length; i++) {
            text.append(i > 0 ? "," : "").append(types[i]);
        }
        return text.append(")").toString();
    }

    private static void face() {
        Set<String> open = new TreeSet<>();
        Set<String> names = new HashSet<>();
        for (Method m : AxesAtDawn.class.getDeclaredMethods()) {
            if (!Modifier.isPrivate(m.getModifiers()) && !m.isSynthetic()) {
                due(Modifier.isPublic(m.getModifiers()) && !Modifier.isStatic(m.getModifiers()), m + " is public");
                boolean throwsIt = Arrays.asList(m.getExceptionTypes()).contains(NoSuchElementException.class);
                due(throwsIt == (m.getName().equals("fact") || m.getName().equals("parted")), m + " throws as told");
                open.add(signature(m));
                names.add(m.getName());
            }
        }
        due(open.equals(new TreeSet<>(Arrays.asList(FACE))), "the methods: " + open);
        for (Field f : AxesAtDawn.class.getDeclaredFields()) {
            boolean none = f.getName().equals("NONE") && Modifier.isPublic(f.getModifiers());
            due(none || Modifier.isPrivate(f.getModifiers()), f + " is private");
        }
        Constructor<?>[] made = AxesAtDawn.class.getDeclaredConstructors();
        due(made.length == 1 && made[0].getParameterCount() == 0 && Modifier.isPublic(made[0].getModifiers()),
                "one constructor");
        due(Modifier.isFinal(AxesAtDawn.class.getModifiers()), "the class is final");
        inside(names);
    }

    private static void inside(Set<String> names) {
        Class<?>[] classes = AxesAtDawn.class.getDeclaredClasses();
        due(classes.length <= 12, "at most some twelve classes");
        for (Class<?> c : classes) {
            due(Modifier.isStatic(c.getModifiers()) && !Modifier.isPublic(c.getModifiers()), c + " is static");
            int fields = 0;
            for (Field f : c.getDeclaredFields()) {
                fields += Modifier.isStatic(f.getModifiers()) ? 0 : 1;
            }
            due(fields <= 20, c + " has at most some twenty fields");
            for (Method m : c.getDeclaredMethods()) {
                due(!names.contains(m.getName()), m + " has a name of its own");
                due(m.getParameterCount() <= 7, m + " has at most seven parameters");
            }
        }
        for (Method m : AxesAtDawn.class.getDeclaredMethods()) {
            due(Modifier.isPublic(m.getModifiers()) || !names.contains(m.getName()), m + " has a name of its own");
        }
    }

    private static void text() throws IOException {
        String text = Files.readString(Path.of("src/main/java/AxesAtDawn.java"));
        String code = text.replaceAll("(?s)/\\*.*?\\*/", "").replaceAll("//[^\n]*", "");
        for (String out : RULED_OUT) {
            due(!code.contains(out), "no " + out);
        }
        for (String line : code.split("\n")) {
            if (line.startsWith("import")) {
                due(line.equals("import java.util.Arrays;")
                        || line.equals("import java.util.NoSuchElementException;"), line);
            }
        }
        due(code.chars().allMatch(c -> c < 127), "plain signs");
    }

    public static void main(String[] args) throws IOException {
        face();
        text();
        System.out.println(wrong == 0 ? "the face is as told" : wrong + " things are not as due");
        if (wrong != 0) {
            System.exit(1);
        }
    }
}
