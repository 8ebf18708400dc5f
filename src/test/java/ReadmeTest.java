import java.io.File;
import java.io.IOException;
import java.lang.reflect.Method;
import java.lang.reflect.Modifier;
import java.nio.charset.StandardCharsets;
import java.nio.file.Files;
import java.nio.file.Path;
import java.util.ArrayList;
import java.util.Comparator;
import java.util.List;
import java.util.regex.Matcher;
import java.util.regex.Pattern;
import java.util.stream.Stream;

/** What README.md says: its example runs as it is written there, and each method of the class is told. */
public final class ReadmeTest {
    private static final Path CLASS = Path.of("src/main/java/AxesAtDawn.java");
    private static int wrong;

    private ReadmeTest() { }

    private static void due(boolean so, String what) {
        if (!so) {
            wrong++;
            System.out.println("not as due in README.md: " + what);
        }
    }

    public static void main(String[] args) throws IOException, InterruptedException {
        String page = Files.readString(Path.of("README.md"));
        example(page);
        methods(page);
        law(page);
        tests(page);
        System.out.println(wrong == 0 ? "README.md is as due" : wrong + " things in README.md are not as due");
        if (wrong != 0) {
            System.exit(1);
        }
    }

    /** The blocks of that kind, each as it stands there. */
    private static List<String> blocks(String page, String kind) {
        List<String> found = new ArrayList<>();
        Matcher m = Pattern.compile("^```" + kind + "\n(.*?)^```$", Pattern.DOTALL | Pattern.MULTILINE).matcher(page);
        while (m.find()) {
            found.add(m.group(1));
        }
        return found;
    }

    private static void example(String page) throws IOException, InterruptedException {
        List<String> program = blocks(page, "java");
        List<String> commands = blocks(page, "sh");
        List<String> prints = blocks(page, "text");
        if (program.size() != 1 || commands.size() != 1 || prints.size() != 1) {
            due(false, "one example, how it is run, and what it prints");
            return;
        }
        Path dir = Files.createTempDirectory("readme");
        try {
            Files.createDirectories(dir.resolve(CLASS).getParent());
            Files.copy(CLASS, dir.resolve(CLASS));
            Files.writeString(dir.resolve("Dig.java"), program.get(0));
            StringBuilder printed = new StringBuilder();
            for (String command : commands.get(0).split("\n")) {
                printed.append(run(dir, command));
            }
            due(printed.toString().equals(prints.get(0)), "the example printed\n" + printed);
        } finally {
            remove(dir);
        }
    }

    private static String run(Path dir, String command) throws IOException, InterruptedException {
        Process p = new ProcessBuilder(command.split(" ")).directory(dir.toFile())
                .redirectError(ProcessBuilder.Redirect.INHERIT).start();
        String printed = new String(p.getInputStream().readAllBytes(), StandardCharsets.UTF_8);
        due(p.waitFor() == 0, command);
        return printed;
    }

    private static void remove(Path dir) throws IOException {
        try (Stream<Path> all = Files.walk(dir)) {
            all.sorted(Comparator.reverseOrder()).map(Path::toFile).forEach(File::delete);
        }
    }

    /** Each method stands in a row of a table, with as many arguments as it takes. */
    private static void methods(String page) {
        for (Method m : AxesAtDawn.class.getDeclaredMethods()) {
            if (!Modifier.isPublic(m.getModifiers()) || m.isSynthetic()) {
                continue;
            }
            int takes = m.getParameterCount();
            String list = takes == 0 ? "" : "\\w+" + ", \\w+".repeat(takes - 1);
            String row = "^\\| [^|]*`" + m.getName() + "\\(" + list + "\\)`[^|]*\\| ";
            due(Pattern.compile(row, Pattern.MULTILINE).matcher(page).find(), "a row of " + m.getName());
        }
    }

    /** The lines of a LAW that the page shows are a LAW. */
    private static void law(String page) {
        Matcher m = Pattern.compile("^    (bar when .*;)$", Pattern.MULTILINE).matcher(page);
        if (!m.find()) {
            due(false, "lines of a LAW");
            return;
        }
        AxesAtDawn x = new AxesAtDawn();
        for (char sign : m.group(1).toCharArray()) {
            x.feed(sign, 0, 0);
        }
        due(x.law() == 0 && x.count(5) == 1, "the lines of a LAW have no FAULT");
    }

    /** Each test of the project is told, and none that is not there. */
    private static void tests(String page) throws IOException {
        try (Stream<Path> all = Files.list(Path.of("src/test/java"))) {
            all.map(path -> path.getFileName().toString().replace(".java", ""))
                    .forEach(name -> due(page.contains("`" + name + "`"), "a word on " + name));
        }
        Matcher m = Pattern.compile("`(\\w+Test)`").matcher(page);
        while (m.find()) {
            due(Files.exists(Path.of("src/test/java/" + m.group(1) + ".java")), m.group(1) + " is there");
        }
    }
}
