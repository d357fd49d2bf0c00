import java.io.IOException;
import java.lang.reflect.Constructor;
import java.lang.reflect.Field;
import java.lang.reflect.Method;
import java.lang.reflect.Modifier;
import java.nio.file.Files;
import java.nio.file.Path;
import java.util.Arrays;
import java.util.List;
import java.util.Map;
import java.util.Set;
import java.util.TreeMap;
import java.util.TreeSet;
import java.util.regex.Matcher;
import java.util.regex.Pattern;
import java.util.stream.Collectors;

/** The document's face, and those rules of LANGUAGE.md that can be seen in the text or the class files. */
public final class LanguageTests {
    private static final Path SOURCE = Path.of("src/main/java/BreathBags.java");
    private static final String FACE = "about(int)int again(int)int bag(int,int)int battle(int,int,boolean)int "
        + "claim(int,int)int day()int fall(int)int fault()int feel(int,int,int,int)int holds(int,int)int judge(int,long)int "
        + "keep(int)int later(int,int,int)int man(int,int)int march(int,int)int nth(int,int)int put(int,int)int "
        + "regiment()int rests(int,int,int,int)int route(int,int)int seed(long)long share(int,boolean)int slit(int)int "
        + "undo()int unfeel()int waits(int,int)int which(int)int wipe()int write(int)int years(int)int";
    private static final String BANNED = "throw|throws|try|catch|finally|synchronized|assert|import|package|native|volatile|"
        + "Exact|hashCode|System|Thread|Object|Random|->|::";

    /** Of what rule 4 allows that which the program uses; what is used anew is looked up there and put here. */
    private static final Set<String> LIBRARY = Set.of("Math.min", "Math.max", "Integer.bitCount");

    private static int wrong = 0;

    public static void main(String[] args) throws IOException {
        face();
        words();
        library();
        sizes();
        objects();
        depth();
        System.out.println("LanguageTests: " + wrong + " wrong");
        if (wrong != 0) {
            System.exit(1);
        }
    }

    private static void must(boolean so, String what) {
        if (!so) {
            wrong++;
            System.out.println("not so: " + what);
        }
    }

    private static void face() {
        Class<?> type = BreathBags.class;
        must(Modifier.isPublic(type.getModifiers()) && Modifier.isFinal(type.getModifiers()), "public and final");
        Set<String> found = new TreeSet<>();
        Set<String> names = new TreeSet<>();
        for (Method m : type.getDeclaredMethods()) {
            if (Modifier.isPrivate(m.getModifiers())) {
                continue;
            }
            String types = Arrays.stream(m.getParameterTypes()).map(Class::getName).collect(Collectors.joining(","));
            found.add(m.getName() + "(" + types + ")" + m.getReturnType().getName());
            names.add(m.getName());
            must(Modifier.isPublic(m.getModifiers()) && !Modifier.isStatic(m.getModifiers()), m + " is public");
        }
        must(String.join(" ", found).equals(FACE), "the face is " + found);
        Constructor<?>[] made = type.getDeclaredConstructors();
        must(made.length == 1 && made[0].getParameterCount() == 0, "one constructor");
        Set<String> fields = new TreeSet<>();
        for (Field f : type.getDeclaredFields()) {
            if (!Modifier.isPrivate(f.getModifiers())) {
                fields.add(f.getName());
            }
        }
        must(fields.equals(Set.of("UNKNOWN", "BAD", "LATE", "FULL", "NONE")), "the constants are " + fields);
        must(BreathBags.UNKNOWN == -1 && BreathBags.BAD == -2 && BreathBags.LATE == -3 && BreathBags.FULL == -4
            && BreathBags.NONE == -9, "what the constants are");
        namesApart(type, names);
    }

    private static void namesApart(Class<?> type, Set<String> names) {
        must(type.getDeclaredClasses().length < 12, "at most twelve classes");
        for (Class<?> inside : type.getDeclaredClasses()) {
            must(Modifier.isStatic(inside.getModifiers()), inside + " is static");
            for (Method m : inside.getDeclaredMethods()) {
                must(!names.contains(m.getName()), m + " bears a public name");
            }
            statics(inside);
        }
        for (Method m : type.getDeclaredMethods()) {
            must(!Modifier.isPrivate(m.getModifiers()) || !names.contains(m.getName()), m + " bears a public name");
        }
        statics(type);
    }

    private static void statics(Class<?> type) {
        int own = 0;
        for (Field f : type.getDeclaredFields()) {
            boolean fixed = Modifier.isStatic(f.getModifiers());
            must(!fixed || Modifier.isFinal(f.getModifiers()), f + " is final");
            own += fixed ? 0 : 1;
        }
        must(own <= 20, type + " has at most twenty fields");
    }

    private static String code() throws IOException {
        return Files.readString(SOURCE).replaceAll("/\\*(?s:.*?)\\*/|//.*", "");
    }

    private static void library() throws IOException {
        Set<String> own = Arrays.stream(BreathBags.class.getDeclaredClasses()).map(Class::getSimpleName).collect(Collectors.toSet());
        Matcher used = Pattern.compile("\\b([A-Z][a-z]\\w*)\\.(\\w+)").matcher(code());
        while (used.find()) {
            must(own.contains(used.group(1)) || LIBRARY.contains(used.group()), "the library's " + used.group() + " is allowed");
        }
    }

    private static void words() throws IOException {
        String code = code();
        Matcher found = Pattern.compile("(?<![A-Za-z])(" + BANNED + ")(?![A-Za-z])").matcher(code);
        while (found.find()) {
            must(false, "no " + found.group() + " in the program");
        }
        must(code.chars().allMatch(c -> c < 128), "plain signs alone");
    }

    private static void sizes() throws IOException {
        List<String> lines = Files.readAllLines(SOURCE);
        int begin = -1;
        for (int i = 0; i < lines.size(); i++) {
            String line = lines.get(i);
            if (line.matches(" {4,8}[a-z].*\\) \\{")) {
                begin = i;
                must(line.chars().filter(c -> c == ',').count() < 7, "seven parameters at most: " + line);
            }
            if (begin >= 0 && line.matches(" {4,8}\\}")) {
                must(i - begin <= 60, "a method of sixty lines at most: " + lines.get(begin));
            }
        }
    }

    /** All runs of calls share one room, so objects are made with the object alone and never by a call. */
    private static void objects() throws IOException {
        for (String line : Files.readAllLines(SOURCE)) {
            must(!line.matches(".*\\bnew\\b.*") || line.matches(" +private final [^(]* = new [^;]*;") || line.matches(" *(//|/\\*).*"),
                "made with the object alone: " + line.trim());
        }
        must(!Files.readString(SOURCE).contains(".clone("), "no copies of arrays");
    }

    /** Methods are told apart by their names alone, which can only make the deepest row of calls look deeper than it is. */
    private static void depth() throws IOException {
        Map<String, Set<String>> called = new TreeMap<>();
        List<String> lines = Files.readAllLines(SOURCE);
        String name = null;
        for (String line : lines) {
            Matcher head = Pattern.compile(" {4,8}[a-z][^=]*?(\\w+)\\([^()]*\\) \\{").matcher(line);
            if (head.matches()) {
                name = head.group(1);
                called.computeIfAbsent(name, n -> new TreeSet<>());
            } else if (name != null) {
                Matcher call = Pattern.compile("(\\w+)\\(").matcher(line);
                while (call.find()) {
                    called.get(name).add(call.group(1));
                }
            }
        }
        must(called.size() > 80, "methods are found: " + called.size());
        for (String each : called.keySet()) {
            int deep = depthOf(each, called, 0);
            must(deep <= 8, "calls go at most eight deep: " + each + " goes " + deep);
        }
    }

    private static int depthOf(String name, Map<String, Set<String>> called, int above) {
        if (!called.containsKey(name) || above > 20) {
            return 0;
        }
        int deepest = 0;
        for (String next : called.get(name)) {
            deepest = Math.max(deepest, depthOf(next, called, above + 1));
        }
        return deepest + 1;
    }
}
