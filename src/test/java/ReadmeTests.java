import java.io.ByteArrayOutputStream;
import java.io.IOException;
import java.io.PrintStream;
import java.lang.reflect.Method;
import java.lang.reflect.Modifier;
import java.net.URL;
import java.net.URLClassLoader;
import java.nio.file.Files;
import java.nio.file.Path;
import java.util.ArrayList;
import java.util.List;
import java.util.Map;
import java.util.Set;
import java.util.TreeMap;
import java.util.TreeSet;
import java.util.regex.Matcher;
import java.util.regex.Pattern;
import javax.tools.ToolProvider;

/** README.md: its example compiles and prints what it says, and its tables have a row for every call and every constant. */
public final class ReadmeTests {
    private static final Path README = Path.of("README.md");

    private static int wrong = 0;

    public static void main(String[] args) throws Exception {
        String page = Files.readString(README);
        example(page);
        calls(page);
        constants(page);
        files(page);
        System.out.println("ReadmeTests: " + wrong + " wrong");
        if (wrong != 0) {
            System.exit(1);
        }
    }

    private static void must(boolean so, String what) {
        if (!so) {
            wrong++;
            System.out.println("not so: " + what);
        }
    }

    private static void example(String page) throws Exception {
        Matcher block = Pattern.compile("```java\n(.*?)```", Pattern.DOTALL).matcher(page);
        must(block.find(), "README.md has an example");
        String code = block.group(1);
        List<String> told = new ArrayList<>();
        List<String> want = new ArrayList<>();
        Matcher row = Pattern.compile("println\\((x\\..*)\\); +// (-?\\d+): ").matcher(code);
        while (row.find()) {
            told.add(row.group(1));
            want.add(row.group(2));
        }
        must(want.size() == code.split("println", -1).length - 1, "each line that prints says what");
        List<String> got = printedBy(code);
        must(got.size() == want.size(), "the example prints " + want.size() + " lines, not " + got.size());
        for (int i = 0; i < Math.min(got.size(), want.size()); i++) {
            must(got.get(i).equals(want.get(i)), told.get(i) + " prints " + want.get(i) + "; it was " + got.get(i));
        }
    }

    private static List<String> printedBy(String code) throws Exception {
        Path folder = Files.createTempDirectory("readme");
        Path source = folder.resolve("Example.java");
        Files.writeString(source, code);
        int refused = ToolProvider.getSystemJavaCompiler().run(null, null, null, "--release", "17", "-cp",
            System.getProperty("java.class.path"), "-d", folder.toString(), source.toString());
        must(refused == 0, "the example compiles");
        List<String> lines = refused == 0 ? run(folder) : List.of();
        remove(folder);
        return lines;
    }

    private static List<String> run(Path folder) throws Exception {
        PrintStream screen = System.out;
        ByteArrayOutputStream printed = new ByteArrayOutputStream();
        try (URLClassLoader loader = new URLClassLoader(new URL[] {folder.toUri().toURL()})) {
            System.setOut(new PrintStream(printed, true));
            loader.loadClass("Example").getMethod("main", String[].class).invoke(null, (Object) new String[0]);
        } finally {
            System.setOut(screen);
        }
        return printed.toString().lines().toList();
    }

    private static void remove(Path folder) throws IOException {
        try (var files = Files.list(folder)) {
            for (Path file : files.toList()) {
                Files.delete(file);
            }
        }
        Files.delete(folder);
    }

    /** A row is told as "| `name(one, other)` |"; every public call has one, with as many arguments as it takes. */
    private static void calls(String page) {
        Map<String, Integer> rows = new TreeMap<>();
        Matcher row = Pattern.compile("(?m)^\\| `(\\w+)\\(([^)]*)\\)` \\|").matcher(page);
        while (row.find()) {
            int many = row.group(2).isEmpty() ? 0 : row.group(2).split(",").length;
            must(rows.put(row.group(1), many) == null, row.group(1) + " has one row");
        }
        Map<String, Integer> face = new TreeMap<>();
        for (Method m : BreathBags.class.getDeclaredMethods()) {
            if (Modifier.isPublic(m.getModifiers())) {
                face.put(m.getName(), m.getParameterCount());
            }
        }
        must(rows.equals(face), "the rows are the calls: " + rows + ", " + face);
    }

    private static void constants(String page) throws IllegalAccessException {
        for (var field : BreathBags.class.getDeclaredFields()) {
            if (Modifier.isPublic(field.getModifiers())) {
                String row = "| `" + field.getName() + "` | " + field.getInt(null) + " |";
                must(page.contains(row), "README.md has " + row);
            }
        }
    }

    /** Each test of the project is named, one whose name has ".." for several alike; and no other is. */
    private static void files(String page) throws IOException {
        Set<String> named = new TreeSet<>();
        Matcher row = Pattern.compile("(?m)^- `(\\w+)(\\.\\.)?(\\w*Tests)?`").matcher(page);
        while (row.find()) {
            if (row.group().contains("Tests")) {
                named.add(row.group(2) == null ? row.group(1) : row.group(1) + "\\w*" + row.group(3));
            }
        }
        try (var tests = Files.list(Path.of("src/test/java"))) {
            for (Path test : tests.toList()) {
                String name = test.getFileName().toString().replace(".java", "");
                must(named.stream().anyMatch(name::matches), "README.md names " + name);
            }
        }
        for (String each : named) {
            must(each.contains("\\w") || Files.exists(Path.of("src/test/java", each + ".java")), "there is " + each);
        }
    }
}
