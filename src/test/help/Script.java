import java.lang.reflect.InvocationTargetException;
import java.lang.reflect.Method;
import java.lang.reflect.Modifier;
import java.util.ArrayList;
import java.util.List;
import java.util.Map;
import java.util.Set;
import java.util.TreeMap;
import java.util.regex.Matcher;
import java.util.regex.Pattern;

/**
 * Runs rows of calls, each told as "put(0, 1) = 2", several behind one another by ";", "7* day()" for seven of them.
 * Each row is run on a new object. Behind it a twin is given only those calls that may change something and were taken;
 * the two must then be alike in all that can be seen: so each refused and each asking call of a row is shown to change
 * nothing.
 */
final class Script {
    private static final Map<String, Integer> NAMES = Map.of("UNKNOWN", -1, "BAD", -2, "LATE", -3, "FULL", -4, "NONE", -9,
        "LOW", Integer.MIN_VALUE, "HIGH", Integer.MAX_VALUE);
    private static final Set<String> CHANGING = Set.of("write", "wipe", "regiment", "put", "march", "claim", "slit", "fall",
        "day", "undo", "feel", "unfeel", "seed", "years", "keep", "again");
    private static final Pattern ROW = Pattern.compile("(?:(\\d+)\\* *)?(\\w+)\\(([^)]*)\\)(?: *= *(-?\\w+))?");
    private static final int MOST_CALLS = 512;
    private static final Map<String, Method> CALLS = new TreeMap<>();

    private static String sentence = "";
    private static int sentences = 0;
    private static int asked = 0;
    private static int wrong = 0;

    static {
        for (Method m : BreathBags.class.getDeclaredMethods()) {
            if (Modifier.isPublic(m.getModifiers())) {
                CALLS.put(m.getName(), m);
            }
        }
    }

    private final BreathBags bags = new BreathBags();
    private final List<String> taken = new ArrayList<>();
    private int calls = 0;

    private Script() {
    }

    /** The words of the document that the rows behind it hold to. */
    static void sentence(String words) {
        sentence = words;
        sentences++;
    }

    /** Rows on an object that is new. */
    static void onNew(String... rows) {
        Script script = new Script();
        script.run(rows);
        script.compareWithTwin();
    }

    /** Rows on an object whose regiment is made of that text. */
    static void on(String text, String... rows) {
        Script script = new Script();
        script.make(text);
        script.run(rows);
        script.compareWithTwin();
    }

    /** The fault of a text; a regiment is made of it if there is none, and else refused. */
    static void fault(String text, int want) {
        Script script = new Script();
        script.tell(text);
        check("fault() of " + text, script.call("fault", ""), want);
        check("regiment() of " + text + " is refused", script.call("regiment", "") == -3 ? 1 : 0, want == -9 ? 0 : 1);
        script.compareWithTwin();
    }

    static void check(String what, long got, long want) {
        asked++;
        if (got != want) {
            wrong++;
            System.out.println("\"" + sentence + "\": " + what + " answered " + got + ", due is " + want);
        }
    }

    static void end(String name) {
        System.out.println(name + ": " + sentences + " sentences, " + asked + " asked, " + wrong + " wrong");
        if (wrong != 0) {
            System.exit(1);
        }
    }

    static String times(int n, String text) {
        return text.repeat(n);
    }

    private void make(String text) {
        tell(text);
        check("regiment() of " + text + " is made", call("regiment", "") >= 0 ? 1 : 0, 1);
    }

    private void tell(String text) {
        call("wipe", "");
        for (int i = 0; i < text.length(); i++) {
            call("write", String.valueOf((int) text.charAt(i)));
        }
    }

    private void run(String... rows) {
        StringBuilder ahead = new StringBuilder();
        for (String row : rows) {
            for (String each : row.split(";")) {
                Matcher m = ROW.matcher(each.trim());
                if (!m.matches()) {
                    throw new IllegalArgumentException("no call: " + each);
                }
                int many = m.group(1) == null ? 1 : Integer.parseInt(m.group(1));
                for (int i = 0; i < many; i++) {
                    one(m, each.trim(), ahead.toString());
                }
                ahead.append(each.trim()).append("; ");
            }
        }
    }

    private void one(Matcher m, String told, String ahead) {
        String name = m.group(2), arguments = m.group(3).trim(), want = m.group(4);
        if (name.equals("tell")) {
            tell(arguments);
            return;
        }
        long got = call(name, arguments);
        if (want != null) {
            check(told + " behind " + ahead, got, numberOf(want));
        }
    }

    private static long numberOf(String told) {
        return NAMES.containsKey(told) ? NAMES.get(told) : Long.parseLong(told);
    }

    private long call(String name, String arguments) {
        long got = invoke(bags, name, arguments);
        calls++;
        if (calls > MOST_CALLS) {
            check("calls of one object", calls, MOST_CALLS);
        }
        // A seed may be any number, so no answer of that call is a refusal.
        boolean refused = got < 0 && !name.equals("seed");
        if (CHANGING.contains(name) && !refused) {
            taken.add(name + "(" + arguments + ")");
        }
        return got;
    }

    private static long invoke(BreathBags bags, String name, String arguments) {
        Method method = CALLS.get(name);
        String[] told = arguments.isEmpty() ? new String[0] : arguments.split(" *, *");
        Class<?>[] types = method.getParameterTypes();
        if (types.length != told.length) {
            throw new IllegalArgumentException("no such call: " + name + "(" + arguments + ")");
        }
        Object[] given = new Object[told.length];
        for (int i = 0; i < told.length; i++) {
            given[i] = types[i] == boolean.class ? (Object) told[i].equals("true")
                : types[i] == long.class ? (Object) numberOf(told[i]) : (Object) (int) numberOf(told[i]);
        }
        try {
            return ((Number) method.invoke(bags, given)).longValue();
        } catch (InvocationTargetException | IllegalAccessException e) {
            throw new IllegalStateException(name + "(" + arguments + ") threw", e);
        }
    }

    private void compareWithTwin() {
        Script twin = new Script();
        for (String call : new ArrayList<>(taken)) {
            int at = call.indexOf('(');
            twin.call(call.substring(0, at), call.substring(at + 1, call.length() - 1));
        }
        String here = all(), there = twin.all();
        asked++;
        if (!here.equals(there)) {
            wrong++;
            System.out.println("\"" + sentence + "\": a refused or asking call changed something, behind " + taken
                + "\n  it is    " + here + "\n  due is   " + there);
        }
    }

    /** All that can be seen, and then all that can be undone and gone on from. */
    private String all() {
        StringBuilder seen = new StringBuilder();
        see(seen, "about", 11);
        for (int bag = 0; bag < 3; bag++) {
            see(seen, "bag", bag, 4);
            see(seen, "nth", bag, 8);
        }
        for (int man = 0; man < 5; man++) {
            see(seen, "man", man, 5);
        }
        seen.append(call("fault", "")).append(' ');
        see(seen, "which", 1);
        long seed = call("seed", "0");
        call("seed", String.valueOf(seed));
        seen.append(seed);
        for (int i = 0; i < 15; i++) {
            seen.append(" undo ").append(call("undo", "")).append(' ');
            seeShort(seen);
        }
        for (int slot = 0; slot < 2; slot++) {
            seen.append(" again ").append(call("again", String.valueOf(slot))).append(' ');
            seeShort(seen);
            for (int bag = 0; bag < 3; bag++) {
                see(seen, "bag", bag, 4);
            }
        }
        return seen.toString();
    }

    private void seeShort(StringBuilder seen) {
        for (int what = 2; what <= 8; what++) {
            seen.append(call("about", String.valueOf(what))).append(' ');
        }
    }

    private void see(StringBuilder seen, String name, int most) {
        for (int what = 0; what <= most; what++) {
            seen.append(call(name, String.valueOf(what))).append(' ');
        }
    }

    private void see(StringBuilder seen, String name, int which, int most) {
        for (int what = 0; what <= most; what++) {
            seen.append(call(name, which + ", " + what)).append(' ');
        }
        seen.append("| ");
    }
}
