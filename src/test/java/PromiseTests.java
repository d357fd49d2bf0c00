import java.util.Objects;

/** One method for each promise: ordinary inputs, the edges that the document names, wrong inputs. */
public final class PromiseTests {
    private static final int UNKNOWN = -1, BAD = -2, LATE = -3, FULL = -4, NONE = -9;
    private static final int LOW = Integer.MIN_VALUE, HIGH = Integer.MAX_VALUE;

    private static int asked = 0;
    private static int wrong = 0;
    private static String promise = "";

    public static void main(String[] args) {
        newObject();
        write();
        wipe();
        faultOfThings();
        faultOfBreaths();
        regiment();
        about();
        bag();
        man();
        put();
        march();
        claim();
        slit();
        fall();
        day();
        sundaysByKind();
        undo();
        later();
        holds();
        nth();
        waits();
        route();
        judge();
        judgeRefusals();
        share();
        feel();
        unfeel();
        which();
        rests();
        battle();
        seed();
        years();
        keep();
        again();
        System.out.println("PromiseTests: " + asked + " asked, " + wrong + " wrong");
        if (wrong != 0) {
            System.exit(1);
        }
    }

    private static void due(String call, Object got, Object want) {
        asked++;
        boolean same = got instanceof Number && want instanceof Number
            ? ((Number) got).longValue() == ((Number) want).longValue()
            : Objects.equals(got, want);
        if (!same) {
            wrong++;
            System.out.println(promise + ": " + call + " answered " + got + ", due is " + want);
        }
    }

    private static BreathBags textOf(String text) {
        BreathBags x = new BreathBags();
        tell(x, text);
        return x;
    }

    private static void tell(BreathBags x, String text) {
        x.wipe();
        for (int i = 0; i < text.length(); i++) {
            x.write(text.charAt(i));
        }
    }

    private static BreathBags made(String text) {
        BreathBags x = textOf(text);
        if (x.regiment() < 0) {
            due("regiment of " + text, "refused", "made");
        }
        return x;
    }

    /** All that can be seen without a change, as a text. */
    private static String seen(BreathBags x) {
        StringBuilder all = new StringBuilder();
        for (int what = 0; what <= 11; what++) {
            all.append(x.about(what)).append(' ');
        }
        for (int bag = 0; bag < 3; bag++) {
            all.append("| ").append(x.bag(bag, 0)).append(' ');
            for (int k = 0; k < 9; k++) {
                all.append(x.nth(bag, k)).append(' ');
            }
        }
        for (int man = 0; man < 5; man++) {
            all.append("| ");
            for (int what = 0; what <= 5; what++) {
                all.append(x.man(man, what)).append(' ');
            }
        }
        return all.toString();
    }

    private static void newObject() {
        promise = "1";
        BreathBags x = new BreathBags();
        for (int what = 0; what <= 11; what++) {
            due("about(" + what + ")", x.about(what), 0);
        }
        due("bag(0, 0)", x.bag(0, 0), UNKNOWN);
        due("man(0, 0)", x.man(0, 0), UNKNOWN);
        due("undo()", x.undo(), LATE);
        due("again(0)", x.again(0), LATE);
        due("again(1)", x.again(1), LATE);
        due("seed(1)", x.seed(1), 0);
        due("which(0)", x.which(0), 40);
        due("share(0)", x.share(0, true), UNKNOWN);
    }

    private static void write() {
        promise = "2";
        BreathBags x = new BreathBags();
        due("write(0)", x.write(0), 1);
        due("write(255)", x.write(255), 2);
        due("write(-1)", x.write(-1), BAD);
        due("write(256)", x.write(256), BAD);
        due("write(LOW)", x.write(LOW), BAD);
        due("write(HIGH)", x.write(HIGH), BAD);
        for (int i = 3; i <= 60; i++) {
            due("write(66)", x.write(66), i);
        }
        due("write(66)", x.write(66), FULL);
        due("write(256)", x.write(256), BAD);
        due("about(11)", x.about(11), 60);
    }

    private static void wipe() {
        promise = "3";
        BreathBags x = made("BG0");
        due("wipe()", x.wipe(), 3);
        due("wipe()", x.wipe(), 0);
        due("about(11)", x.about(11), 0);
        due("about(0)", x.about(0), 1);
        due("fault()", x.fault(), 0);
        due("write(66)", x.write(66), 1);
    }

    private static void fault(String text, int want) {
        BreathBags x = textOf(text);
        due("fault() of " + text, x.fault(), want);
        due("regiment() of " + text, x.regiment() < 0, want != NONE);
    }

    private static void faultOfThings() {
        promise = "4";
        fault("", 0);
        fault("b", 0);
        fault("G0", 0);
        fault("B", NONE);
        fault("BB", 1);
        fault("B" + (char) 255, 1);
        fault("BG", 2);
        fault("BG/", 2);
        fault("BG0", NONE);
        fault("BG3", NONE);
        fault("BG4", 2);
        fault("BG0G1G2", NONE);
        fault("BG0G1G2G", 7);
        fault("BG0G1G2G3", 7);
        fault("BM", 2);
        fault("BM9", 3);
        fault("BM:", 2);
        fault("BM93", NONE);
        fault("BM94", 3);
        fault("BM00M11M22M33M90", NONE);
        fault("BM00M11M22M33M90M", 16);
        fault("BM00M11M22M33M90M00", 16);
        fault("BM00M11M22M33M90G", 17);
        fault("BG0 M00", 3);
    }

    private static void faultOfBreaths() {
        promise = "4";
        fault("BP", 1);
        fault("BG0P", 3);
        fault("BG0P00", 3);
        fault("BM00P", 4);
        fault("BG0M00P", 7);
        fault("BG0M00P0", 8);
        fault("BG0M00P00", NONE);
        fault("BG0M00P1", 7);
        fault("BG0M00P01", 8);
        fault("BG0M00P0x", 8);
        fault("BG0G0M00P01", NONE);
        fault("BG0G0M00P02", 10);
        fault("BG0M00P00M00P10", NONE);
        String nine = "P00P00P00P00P00P00P00P00P00";
        fault("BG0M00" + nine, NONE);
        fault("BG0M00" + nine + "P", 33);
        fault("BG0M00" + nine + "P0", 33);
        fault("BG0M00" + nine + "G", 34);
        fault("BG0G0M00" + nine + "P", 36);
        fault("BG0G0M00" + nine + "P0", 37);
        fault("BG0G0M00" + nine + "P00", 37);
        fault("BG0G0M00" + nine + "P01", NONE);
        fault("BG0M00" + nine + "G0P01", NONE);
    }

    private static void regiment() {
        promise = "5";
        BreathBags x = textOf("BG0G1M50M51M52P00P10P21P20");
        due("regiment()", x.regiment(), 234);
        x.feel(0, 0, 1, 1);
        x.seed(77);
        x.keep(0);
        x.day();
        x.put(0, 0);
        x.march(0, 2);
        x.fall(1);
        tell(x, "BG4");
        String before = seen(x);
        due("regiment()", x.regiment(), LATE);
        due("all", seen(x), before);
        due("about(9)", x.about(9), 4);
        tell(x, "BM10");
        due("regiment()", x.regiment(), 10);
        due("about(0)", x.about(0), 0);
        due("about(2)", x.about(2), 0);
        due("about(3)", x.about(3), 0);
        due("about(4)", x.about(4), 0);
        due("about(5)", x.about(5), 0);
        due("about(7)", x.about(7), 1);
        due("about(8)", x.about(8), 0);
        due("about(9)", x.about(9), 0);
        due("about(10)", x.about(10), 1);
        due("about(11)", x.about(11), 4);
        due("again(0)", x.again(0), LATE);
        due("undo()", x.undo(), LATE);
        due("seed(0)", x.seed(0), 77);
        due("bag(0, 0)", x.bag(0, 0), UNKNOWN);
        due("man(1, 0)", x.man(1, 0), UNKNOWN);
        tell(x, "B");
        due("regiment()", x.regiment(), 0);
        due("man(0, 0)", x.man(0, 0), UNKNOWN);
        tell(x, "BG0G0M00P00P00P00P00P00P00P00P00P00P01P01P01P01P01P01P01P01");
        due("about(11)", x.about(11), 59);
        due("regiment()", x.regiment(), 227);
    }

    private static void about() {
        promise = "6";
        BreathBags x = made("BG0G2M30M11M02P00P11P21P20");
        x.day();
        x.march(0, 1);
        x.fall(0);
        x.fall(2);
        x.feel(1, 1, 1, 1);
        int[] want = {2, 3, 1, 2, 2, 5, 2, 4, 0, 4, 1, 26};
        for (int what = 0; what < want.length; what++) {
            due("about(" + what + ")", x.about(what), want[what]);
        }
        due("about(-1)", x.about(-1), BAD);
        due("about(12)", x.about(12), BAD);
        due("about(LOW)", x.about(LOW), BAD);
        due("about(HIGH)", x.about(HIGH), BAD);
    }

    private static void bag() {
        promise = "7";
        BreathBags x = made("BG3G1G2M00M00M00P10P20P10P22");
        due("bag(0, 0)", x.bag(0, 0), 3);
        due("bag(1, 0)", x.bag(1, 0), 1);
        due("bag(2, 0)", x.bag(2, 0), 2);
        due("bag(0, 1)", x.bag(0, 1), 3);
        due("bag(1, 1)", x.bag(1, 1), 0);
        due("bag(0, 2)", x.bag(0, 2), 1);
        due("bag(0, 3)", x.bag(0, 3), 1);
        due("bag(2, 2)", x.bag(2, 2), 2);
        due("bag(1, 2)", x.bag(1, 2), NONE);
        due("bag(1, 3)", x.bag(1, 3), NONE);
        due("bag(0, 4)", x.bag(0, 4), 6);
        due("bag(1, 4)", x.bag(1, 4), 0);
        due("bag(2, 4)", x.bag(2, 4), 4);
        due("bag(3, 0)", x.bag(3, 0), UNKNOWN);
        due("bag(-1, 9)", x.bag(-1, 9), UNKNOWN);
        due("bag(HIGH, 0)", x.bag(HIGH, 0), UNKNOWN);
        due("bag(0, 5)", x.bag(0, 5), BAD);
        due("bag(0, -1)", x.bag(0, -1), BAD);
        BreathBags deep = made("BG1M00M00P00P10");
        due("bag(0, 2) of a deep one", deep.bag(0, 2), 0);
        due("bag(0, 3) of a deep one", deep.bag(0, 3), 1);
        due("bag(0, 4) of a deep one", deep.bag(0, 4), 3);
    }

    private static void man() {
        promise = "8";
        BreathBags x = made("BG0G1M92M03P00P01P10");
        for (int i = 0; i < 7; i++) {
            x.day();
        }
        x.march(0, 1);
        x.fall(1);
        int[] wantFirst = {2, 8, 0, 2, 0, 0};
        int[] wantSecond = {3, 0, 0, 0, 1, 1};
        for (int what = 0; what <= 5; what++) {
            due("man(0, " + what + ")", x.man(0, what), wantFirst[what]);
            due("man(1, " + what + ")", x.man(1, what), wantSecond[what]);
        }
        due("man(2, 0)", x.man(2, 0), UNKNOWN);
        due("man(-1, 9)", x.man(-1, 9), UNKNOWN);
        due("man(LOW, 0)", x.man(LOW, 0), UNKNOWN);
        due("man(0, 6)", x.man(0, 6), BAD);
        due("man(0, -1)", x.man(0, -1), BAD);
    }

    private static void put() {
        promise = "9";
        BreathBags x = made("BG0G3M20M90M90P00P00P00P00P00P00P00P00");
        due("put(1, 0)", x.put(1, 0), 9);
        due("bag(0, 3)", x.bag(0, 3), 1);
        due("man(1, 1)", x.man(1, 1), 8);
        due("put(1, 0)", x.put(1, 0), FULL);
        due("man(1, 1)", x.man(1, 1), 8);
        due("put(0, 1)", x.put(0, 1), 1);
        due("put(0, 1)", x.put(0, 1), 2);
        due("put(0, 1)", x.put(0, 1), LATE);
        due("put(0, 0)", x.put(0, 0), LATE);
        x.fall(2);
        due("put(2, 1)", x.put(2, 1), LATE);
        due("put(2, 0)", x.put(2, 0), LATE);
        due("put(3, 0)", x.put(3, 0), UNKNOWN);
        due("put(-1, 0)", x.put(-1, 0), UNKNOWN);
        due("put(0, 2)", x.put(0, 2), UNKNOWN);
        due("put(1, -1)", x.put(1, -1), UNKNOWN);
        due("about(9)", x.about(9), 4);
    }

    private static void march() {
        promise = "10";
        BreathBags x = made("BG0G1G3M00M00M00P00P10P20P01P11P21P02");
        due("march(0, 2)", x.march(0, 2), 1);
        due("bag(0, 3)", x.bag(0, 3), 0);
        due("man(0, 4)", x.man(0, 4), 0);
        due("man(1, 4)", x.man(1, 4), 1);
        due("man(2, 4)", x.man(2, 4), 1);
        due("march(1, 2)", x.march(1, 2), 1);
        due("bag(1, 2)", x.bag(1, 2), 2);
        due("man(0, 4)", x.man(0, 4), 1);
        due("march(2, 1)", x.march(2, 1), 0);
        due("march(2, 1)", x.march(2, 1), LATE);
        due("march(0, 2)", x.march(0, 2), LATE);
        due("march(0, 9)", x.march(0, 9), LATE);
        due("march(0, 0)", x.march(0, 0), BAD);
        due("march(0, 10)", x.march(0, 10), BAD);
        due("march(0, LOW)", x.march(0, LOW), BAD);
        due("march(3, 0)", x.march(3, 0), UNKNOWN);
        due("march(-1, 1)", x.march(-1, 1), UNKNOWN);
        due("about(9)", x.about(9), 3);
        BreathBags nine = made("BG0M00P00P00P00P00P00P00P00P00P00");
        due("march(0, 9)", nine.march(0, 9), 0);
        due("man(0, 4)", nine.man(0, 4), 9);
    }

    private static void claim() {
        promise = "11";
        BreathBags x = made("BG0G1G3M90M00M00P00P10P00P20P01P11P01P21P02");
        due("claim(0, 0)", x.claim(0, 0), 10);
        due("nth(0, 0)", x.nth(0, 0), 2);
        due("nth(0, 1)", x.nth(0, 1), 1);
        due("nth(0, 2)", x.nth(0, 2), 0);
        due("claim(0, 1)", x.claim(0, 1), 11);
        due("nth(1, 0)", x.nth(1, 0), 1);
        due("nth(1, 1)", x.nth(1, 1), 0);
        due("man(0, 4)", x.man(0, 4), 0);
        due("claim(0, 2)", x.claim(0, 2), LATE);
        due("claim(1, 0)", x.claim(1, 0), 1);
        due("claim(1, 0)", x.claim(1, 0), LATE);
        x.fall(2);
        due("claim(2, 0)", x.claim(2, 0), LATE);
        due("claim(3, 0)", x.claim(3, 0), UNKNOWN);
        due("claim(0, 3)", x.claim(0, 3), UNKNOWN);
        due("claim(-1, -1)", x.claim(-1, -1), UNKNOWN);
        due("about(9)", x.about(9), 4);
        BreathBags nine = made("BG0M00M00P00P10P10P10P10P10P10P10P10");
        due("claim of the ninth", nine.claim(0, 0), 1);
        due("bag(0, 2)", nine.bag(0, 2), 1);
        due("bag(0, 1)", nine.bag(0, 1), 8);
        due("put behind it", nine.put(0, 0), 9);
        due("nth(0, 0)", nine.nth(0, 0), 0);
    }

    private static void slit() {
        promise = "12";
        BreathBags x = made("BG3G0M00M00P10P00P10");
        due("slit(0)", x.slit(0), 3);
        due("bag(0, 1)", x.bag(0, 1), 0);
        due("man(0, 4)", x.man(0, 4), 1);
        due("man(1, 4)", x.man(1, 4), 2);
        due("slit(0)", x.slit(0), LATE);
        due("slit(1)", x.slit(1), LATE);
        due("slit(2)", x.slit(2), UNKNOWN);
        due("slit(-1)", x.slit(-1), UNKNOWN);
        due("about(9)", x.about(9), 1);
    }

    private static void fall() {
        promise = "13";
        BreathBags x = made("BG3G0M00M90M00P00P10P10P01");
        due("fall(1)", x.fall(1), 2);
        due("fall(1)", x.fall(1), LATE);
        due("fall(0)", x.fall(0), 4);
        due("fall(2)", x.fall(2), 4);
        due("about(5)", x.about(5), 7);
        due("about(3)", x.about(3), 4);
        due("man(1, 1)", x.man(1, 1), 9);
        due("fall(3)", x.fall(3), UNKNOWN);
        due("fall(-1)", x.fall(-1), UNKNOWN);
        due("fall(HIGH)", x.fall(HIGH), UNKNOWN);
        due("about(9)", x.about(9), 3);
    }

    private static void day() {
        promise = "14";
        BreathBags x = made("BG2G2G1M00M00P00P10P10P01P02");
        due("day()", x.day(), 2);
        due("bag(0, 2)", x.bag(0, 2), 1);
        due("man(0, 4)", x.man(0, 4), 2);
        due("day()", x.day(), 1);
        due("day()", x.day(), 1);
        due("day()", x.day(), 0);
        due("bag(2, 1)", x.bag(2, 1), 1);
        due("about(2)", x.about(2), 4);
        due("about(9)", x.about(9), 4);
    }

    private static void sundaysByKind() {
        promise = "14";
        BreathBags x = made("BM20M21M22M23M10");
        x.fall(4);
        for (int i = 0; i < 6; i++) {
            x.day();
        }
        due("about(7) ahead of the Sunday", x.about(7), 9);
        x.day();
        due("about(7) behind it", x.about(7), 5);
        for (int i = 0; i < 14; i++) {
            x.day();
        }
        int[] sundays = {0, 1, 0, 0, 1};
        int[] grief = {1, 2, 2, 0, 0};
        for (int man = 0; man < 5; man++) {
            due("man(" + man + ", 1)", x.man(man, 1), sundays[man]);
            due("man(" + man + ", 2)", x.man(man, 2), grief[man]);
        }
        due("about(8)", x.about(8), 5);
        due("about(4)", x.about(4), 0);
        due("about(2)", x.about(2), 21);
    }

    private static void undo() {
        promise = "15";
        BreathBags x = made("BG0G2M40M11P00P10P01P11P01");
        String[] states = new String[7];
        for (int i = 0; i < 7; i++) {
            states[i] = seen(x);
            actOf(x, i);
        }
        due("about(9)", x.about(9), 7);
        x.put(1, 7);
        for (int i = 6; i >= 0; i--) {
            due("undo()", x.undo(), i);
            due("state " + i, seen(x), states[i]);
        }
        due("undo()", x.undo(), LATE);
        for (int i = 0; i < 16; i++) {
            x.day();
        }
        due("about(9)", x.about(9), 14);
        for (int i = 13; i >= 0; i--) {
            due("undo()", x.undo(), i);
        }
        due("undo()", x.undo(), LATE);
        due("about(2)", x.about(2), 2);
        undoOfEachBehindADay();
    }

    private static void undoOfEachBehindADay() {
        for (int i = 0; i < 7; i++) {
            BreathBags x = made("BG0G2M40M11P00P10P01P11P01P01");
            x.day();
            String before = seen(x);
            long done = i == 0 ? x.put(0, 0) : i == 1 ? x.march(1, 2) : i == 2 ? x.claim(1, 0) : i == 3 ? x.day()
                : i == 4 ? x.slit(0) : i == 5 ? x.fall(1) : x.put(1, 1);
            due("act " + i + " can be", done >= 0, true);
            due("undo() of act " + i, x.undo(), 1);
            due("all, act " + i + " undone", seen(x), before);
        }
    }

    private static void actOf(BreathBags x, int i) {
        switch (i) {
            case 0: due("put", x.put(0, 0), 3); break;
            case 1: due("march", x.march(1, 2), 1); break;
            case 2: due("claim", x.claim(1, 0), 2); break;
            case 3: due("day", x.day(), 1); break;
            case 4: due("slit", x.slit(0), 2); break;
            case 5: due("fall", x.fall(1), 0); break;
            default: due("day", x.day(), 0); break;
        }
    }

    private static void later() {
        promise = "16";
        BreathBags x = made("BM20M21M22M23M10");
        x.day();
        x.fall(4);
        String before = seen(x);
        due("later(0, 0, 0)", x.later(0, 0, 0), 2);
        due("later(0, 5, 0)", x.later(0, 5, 0), 2);
        due("later(0, 6, 0)", x.later(0, 6, 0), 1);
        due("later(0, 40, 0)", x.later(0, 40, 0), 0);
        due("later(0, 40, 1)", x.later(0, 40, 1), 3);
        due("later(1, 40, 0)", x.later(1, 40, 0), 1);
        due("later(1, 40, 1)", x.later(1, 40, 1), 4);
        due("later(2, 40, 1)", x.later(2, 40, 1), 6);
        due("later(3, 40, 1)", x.later(3, 40, 1), 0);
        due("later(4, 40, 0)", x.later(4, 40, 0), 1);
        due("later(4, 40, 1)", x.later(4, 40, 1), 0);
        due("later(5, -1, 0)", x.later(5, -1, 0), UNKNOWN);
        due("later(-1, 0, 0)", x.later(-1, 0, 0), UNKNOWN);
        due("later(0, 41, 0)", x.later(0, 41, 0), BAD);
        due("later(0, -1, 0)", x.later(0, -1, 0), BAD);
        due("later(0, 0, 2)", x.later(0, 0, 2), BAD);
        due("later(0, 0, -1)", x.later(0, 0, -1), BAD);
        due("all", seen(x), before);
    }

    private static void holds() {
        promise = "17";
        BreathBags x = made("BG2G0M00P00P00P00P01");
        String before = seen(x);
        due("holds(0, 0)", x.holds(0, 0), 3);
        due("holds(0, 1)", x.holds(0, 1), 2);
        due("holds(0, 3)", x.holds(0, 3), 0);
        due("holds(0, 40)", x.holds(0, 40), 0);
        due("holds(1, 40)", x.holds(1, 40), 1);
        due("holds(2, 41)", x.holds(2, 41), UNKNOWN);
        due("holds(-1, 0)", x.holds(-1, 0), UNKNOWN);
        due("holds(0, 41)", x.holds(0, 41), BAD);
        due("holds(0, -1)", x.holds(0, -1), BAD);
        due("all", seen(x), before);
    }

    private static void nth() {
        promise = "18";
        BreathBags x = made("BG0G1M00M00M00P00P10P20P01P11P21");
        for (int k = 0; k < 3; k++) {
            due("nth(0, " + k + ")", x.nth(0, k), 2 - k);
            due("nth(1, " + k + ")", x.nth(1, k), k);
        }
        due("nth(0, 3)", x.nth(0, 3), NONE);
        due("nth(0, 8)", x.nth(0, 8), NONE);
        due("nth(0, 9)", x.nth(0, 9), BAD);
        due("nth(0, -1)", x.nth(0, -1), BAD);
        due("nth(2, 9)", x.nth(2, 9), UNKNOWN);
        due("nth(-1, 0)", x.nth(-1, 0), UNKNOWN);
        BreathBags nine = made("BG0M00M00P10P00P00P00P00P00P00P00P00");
        due("nth(0, 8)", nine.nth(0, 8), 1);
    }

    private static void waits() {
        promise = "19";
        BreathBags x = made("BG0G1M00M00M00P00P10P00P01P11P01");
        due("waits(0, 0)", x.waits(0, 0), 3);
        due("waits(1, 0)", x.waits(1, 0), 2);
        due("waits(2, 0)", x.waits(2, 0), 0);
        due("waits(0, 1)", x.waits(0, 1), 3);
        due("waits(1, 1)", x.waits(1, 1), 2);
        BreathBags first = made("BG0G1M00M00M00P10P00P01P11");
        due("waits(0, 0), the first one", first.waits(0, 0), 1);
        due("waits(0, 1), the first one", first.waits(0, 1), 1);
        due("waits(3, 0)", x.waits(3, 0), UNKNOWN);
        due("waits(0, 2)", x.waits(0, 2), UNKNOWN);
        due("waits(-1, -1)", x.waits(-1, -1), UNKNOWN);
    }

    private static void route() {
        promise = "20";
        BreathBags x = made("BG0G1G3M00M00M00P20P10P00P11P21P12P12");
        due("route(1, 0)", x.route(1, 0), 1);
        due("route(1, 1)", x.route(1, 1), 1);
        due("route(3, 0)", x.route(3, 0), 1);
        due("route(3, 1)", x.route(3, 1), 12);
        due("route(4, 0)", x.route(4, 0), 2);
        due("route(4, 1)", x.route(4, 1), 22);
        due("route(5, 1)", x.route(5, 1), 212);
        due("route(7, 0)", x.route(7, 0), 3);
        due("route(7, 1)", x.route(7, 1), 322);
        due("route(8, 0)", x.route(8, 0), NONE);
        due("route(8, 1)", x.route(8, 1), NONE);
        due("route(20, 1)", x.route(20, 1), NONE);
        due("route(0, 0)", x.route(0, 0), BAD);
        due("route(21, 0)", x.route(21, 0), BAD);
        due("route(1, 2)", x.route(1, 2), BAD);
        due("route(1, -1)", x.route(1, -1), BAD);
        due("route(9, 2)", x.route(9, 2), BAD);
        due("about(3)", x.about(3), 7);
        BreathBags third = made("BG0G0G0M00M00P01P12P02");
        due("route(2, 1), the third bag's top is his too", third.route(2, 1), 11);
        due("route(3, 0), the third bag's lowest is not", third.route(3, 0), 2);
        BreathBags one = made("BG0M00P00P00");
        due("route(2, 1) of one bag", one.route(2, 1), 2);
        BreathBags two = made("BG0G0M00M00P00P01P11");
        due("route(2, 1) of two bags", two.route(2, 1), 2);
        due("route(1, 1) of two bags", two.route(1, 1), 1);
        two.fall(1);
        due("route(1, 1), a man fell", two.route(1, 1), 1);
        due("route(3, 1) of two bags", two.route(3, 1), 12);
        BreathBags five = made("BG0M00M00M00M00M00P00P10P20P30P40");
        due("route(5, 0), each loses one", five.route(5, 0), 5);
        due("route(5, 1), each loses one", five.route(5, 1), 5);
    }

    private static void judge() {
        promise = "21";
        BreathBags x = made("BG0G2G3M10M00P10P10P11P12");
        String before = seen(x);
        due("a day", x.judge(1, 0), NONE);
        due("no day: 0, 0, 1", x.judge(1, 1), 0);
        due("no day: 0, 1, 0", x.judge(1, 10), 0);
        due("put, put", x.judge(2, 100_100), 1);
        due("put, claim, put", x.judge(3, 100_300_100), NONE);
        due("put in no bag", x.judge(1, 103), 0);
        due("march 2", x.judge(1, 202), NONE);
        due("march 3", x.judge(1, 203), 0);
        due("march 0", x.judge(1, 200), 0);
        due("put, march 3", x.judge(2, 100_203), NONE);
        due("day, march of the leaky", x.judge(2, 211), 1);
        due("claim sealed", x.judge(1, 312), 0);
        due("claim thrice", x.judge(3, 310_310_310), 2);
        due("slit, slit", x.judge(2, 400_400), 1);
        due("slit 4, 1, 0", x.judge(1, 410), 0);
        due("slit no bag", x.judge(1, 403), 0);
        due("fall, fall", x.judge(2, 501_501), 1);
        due("fall 5, 1, 0", x.judge(1, 510), 0);
        due("fall of no man", x.judge(1, 502), 0);
        due("fall, put", x.judge(2, 500_100), 1);
        due("has 1", x.judge(1, 601), NONE);
        due("has 2", x.judge(1, 602), 0);
        due("fallen, has 1", x.judge(2, 500_601), NONE);
        due("no man has 0", x.judge(1, 620), 0);
        due("claim, claim, has 2, has 3", x.judge(4, 310_310_612_613L), 3);
        due("7", x.judge(1, 700), 0);
        due("8", x.judge(1, 800), 0);
        due("9 behind a day", x.judge(2, 900), 1);
        due("a day first", x.judge(4, 999), 3);
        due("all", seen(x), before);
    }

    private static void judgeRefusals() {
        promise = "21";
        BreathBags x = made("BG0M10");
        due("judge(0, 0)", x.judge(0, 0), BAD);
        due("judge(5, 0)", x.judge(5, 0), BAD);
        due("judge(LOW, 0)", x.judge(LOW, 0), BAD);
        due("judge(1, -1)", x.judge(1, -1), BAD);
        due("judge(1, 999)", x.judge(1, 999), 0);
        due("judge(1, 1000)", x.judge(1, 1000), BAD);
        due("judge(2, 999999)", x.judge(2, 999_999), 0);
        due("judge(2, 1000000)", x.judge(2, 1_000_000), BAD);
        due("judge(3, 1000000000)", x.judge(3, 1_000_000_000), BAD);
        due("judge(4, 999999999999)", x.judge(4, 999_999_999_999L), 0);
        due("judge(4, 1000000000000)", x.judge(4, 1_000_000_000_000L), BAD);
        due("judge(4, Long.MIN_VALUE)", x.judge(4, Long.MIN_VALUE), BAD);
        due("judge(4, Long.MAX_VALUE)", x.judge(4, Long.MAX_VALUE), BAD);
    }

    private static void fraction(String what, int upper, int lower, int wantUpper, int wantLower) {
        due(what + ", above", upper, wantUpper);
        due(what + ", below", lower, wantLower);
    }

    private static void share() {
        promise = "22";
        BreathBags x = made("BG0G1M00M00M00P00P00P01P10P11P20P20P20P20");
        // 3, 2 and 4 breaths: 2 marches; the third man always makes one more, the others share the second.
        fraction("share(0)", x.share(0, true), x.share(0, false), 1, 2);
        fraction("share(1)", x.share(1, true), x.share(1, false), 1, 2);
        fraction("share(2)", x.share(2, true), x.share(2, false), 1, 1);
        x.fall(2);
        fraction("share of the fallen", x.share(2, true), x.share(2, false), 1, 1);
        due("share(3, true)", x.share(3, true), UNKNOWN);
        due("share(-1, false)", x.share(-1, false), UNKNOWN);
        // 1 each of five: the fourth who comes makes it.
        BreathBags five = made("BG0M00M00M00M00M00P00P10P20P30P40");
        fraction("a fifth", five.share(3, true), five.share(3, false), 1, 5);
        // 4, and 1 each of four: the first makes one whenever he comes, the others share the second.
        BreathBags rich = made("BG0M00M00M00M00M00P00P00P00P00P10P20P30P40");
        fraction("the rich one", rich.share(0, true), rich.share(0, false), 1, 1);
        fraction("a poor one", rich.share(1, true), rich.share(1, false), 1, 4);
        // 3 and 1: each is needed; a third who has none makes nothing.
        BreathBags two = made("BG0M00M00M00P00P00P00P10");
        fraction("a half", two.share(0, true), two.share(0, false), 1, 2);
        fraction("nothing", two.share(2, true), two.share(2, false), 0, 1);
        BreathBags alone = made("BG0M00P00P00P00P00P00P00P00P00");
        fraction("alone", alone.share(0, true), alone.share(0, false), 2, 1);
    }

    private static void feel() {
        promise = "23";
        BreathBags x = made("BG0M00P00");
        due("feel(1, 0, 1, 1)", x.feel(1, 0, 1, 1), UNKNOWN);
        due("feel(0, 1, 0, 1)", x.feel(0, 1, 0, 1), UNKNOWN);
        due("feel(-1, -1, 1, 1)", x.feel(-1, -1, 1, 1), UNKNOWN);
        due("feel(0, 0, 0, 1)", x.feel(0, 0, 0, 1), BAD);
        due("feel(0, 0, 10, 1)", x.feel(0, 0, 10, 1), BAD);
        due("feel(0, 0, 1, 2)", x.feel(0, 0, 1, 2), BAD);
        due("feel(0, 0, 1, -1)", x.feel(0, 0, 1, -1), BAD);
        for (int i = 1; i <= 6; i++) {
            due("feel(0, 0, 9, 1)", x.feel(0, 0, 9, 1), i);
        }
        due("feel(0, 0, 9, 1)", x.feel(0, 0, 9, 1), FULL);
        due("feel(0, 0, 10, 1)", x.feel(0, 0, 10, 1), BAD);
        due("about(10)", x.about(10), 6);
        due("about(9)", x.about(9), 0);
    }

    private static void unfeel() {
        promise = "24";
        BreathBags x = made("BG0M00P00");
        due("unfeel()", x.unfeel(), 0);
        x.feel(0, 0, 1, 0);
        x.feel(0, 0, 1, 1);
        due("which(0)", x.which(0), 0);
        due("unfeel()", x.unfeel(), 2);
        due("about(10)", x.about(10), 0);
        due("which(0)", x.which(0), 40);
        due("feel", x.feel(0, 0, 1, 1), 1);
    }

    private static void which() {
        promise = "25";
        BreathBags x = made("BG3G0M00M00M00P00P10P20");
        due("which(0)", x.which(0), 40);
        due("which(1)", x.which(1), 0);
        due("which(2)", x.which(2), BAD);
        due("which(-1)", x.which(-1), BAD);
        x.feel(1, 0, 2, 1);
        // plain 10, deep 10, leaky 0 and 1 day, sealed 10
        due("which(0)", x.which(0), 32);
        x.feel(0, 0, 2, 1);
        due("which(0), deep only", x.which(0), 10);
        due("which(1), deep only", x.which(1), 10);
        x.unfeel();
        x.feel(0, 0, 9, 0);
        due("which(0), leaked", x.which(0), 9);
        due("which(1), leaked", x.which(1), 21);
        x.feel(2, 0, 9, 0);
        due("which(0), all leaked", x.which(0), 7);
        due("which(1), all leaked", x.which(1), 23);
        x.feel(1, 1, 1, 1);
        due("which(0), none", x.which(0), 0);
        due("which(1), none", x.which(1), NONE);
        whichAsItIsNow();
    }

    private static void whichAsItIsNow() {
        BreathBags x = made("BG0G0M00M00P00P10");
        x.feel(0, 0, 1, 1);
        due("which(1)", x.which(1), 10);
        x.march(0, 1);
        due("which(0) when he is the top one", x.which(0), 31);
        due("which(1) when he is the top one", x.which(1), 0);
        x.feel(1, 1, 1, 1);
        due("which(0)", x.which(0), 0);
        tell(x, "BG0M00P00");
        x.regiment();
        due("which(0) when the other bag is not any more", x.which(0), 31);
        due("about(10)", x.about(10), 2);
        tell(x, "BG0");
        x.regiment();
        due("which(0) when the men are not any more", x.which(0), 40);
    }

    private static void rests() {
        promise = "26";
        // 4 breaths: only one can claim and leave 3.
        BreathBags x = made("BG0G3G0M00M00M00P00P10P00P20P01P11P01P02P12P02");
        due("rests(0, 1, 0, 0)", x.rests(0, 1, 0, 0), 2);
        due("rests(0, 1, 0, 1)", x.rests(0, 1, 0, 1), 1);
        // nobody can claim: all pairs are at rest.
        due("rests(0, 1, 1, 0)", x.rests(0, 1, 1, 0), 4);
        due("rests(0, 1, 1, 1)", x.rests(0, 1, 1, 1), 0);
        // 3 breaths: both leave it, or both claim.
        due("rests(0, 1, 2, 0)", x.rests(0, 1, 2, 0), 2);
        due("rests(0, 1, 2, 1)", x.rests(0, 1, 2, 1), 0);
        // the other has none there: the one alone would lose by it.
        due("rests(0, 2, 2, 0)", x.rests(0, 2, 2, 0), 2);
        due("rests(2, 0, 2, 1)", x.rests(2, 0, 2, 1), 0);
        x.fall(1);
        due("rests(0, 1, 0, 0), fallen", x.rests(0, 1, 0, 0), 2);
        due("rests(0, 1, 0, 1), fallen", x.rests(0, 1, 0, 1), 10);
        due("rests(0, 3, 0, 0)", x.rests(0, 3, 0, 0), UNKNOWN);
        due("rests(3, 3, 0, 0)", x.rests(3, 3, 0, 0), UNKNOWN);
        due("rests(-1, 0, 0, 0)", x.rests(-1, 0, 0, 0), UNKNOWN);
        due("rests(0, 0, 3, 0)", x.rests(0, 0, 3, 0), UNKNOWN);
        due("rests(0, 0, 0, 0)", x.rests(0, 0, 0, 0), BAD);
        due("rests(0, 1, 0, 2)", x.rests(0, 1, 0, 2), BAD);
        due("rests(0, 1, 0, -1)", x.rests(0, 1, 0, -1), BAD);
        due("about(3)", x.about(3), 10);
        due("about(9)", x.about(9), 1);
        BreathBags five = made("BG0M00M00P00P10P00P10P00");
        due("rests(0, 1, 0, 0) of five", five.rests(0, 1, 0, 0), 1);
        due("rests(0, 1, 0, 1) of five", five.rests(0, 1, 0, 1), 11);
        BreathBags lowest = made("BG0M00M00P00P10P10P10P10");
        due("rests(0, 1, 0, 0), the lowest is his", lowest.rests(0, 1, 0, 0), 1);
        due("rests(0, 1, 0, 1), the lowest is his", lowest.rests(0, 1, 0, 1), 11);
    }

    private static void battle() {
        promise = "27";
        BreathBags x = made("BG0G1M00M00M00P00P00P11");
        fraction("m 0", x.battle(0, 3, true), x.battle(0, 3, false), 1, 1);
        fraction("m 1", x.battle(1, 3, true), x.battle(1, 3, false), 51, 100);
        fraction("m 2", x.battle(2, 3, true), x.battle(2, 3, false), 3, 10);
        fraction("m 3", x.battle(3, 3, true), x.battle(3, 3, false), 9, 100);
        fraction("m 4", x.battle(4, 3, true), x.battle(4, 3, false), 0, 1);
        fraction("x 0", x.battle(1, 0, true), x.battle(1, 0, false), 0, 1);
        fraction("x 10", x.battle(3, 10, true), x.battle(3, 10, false), 1, 1);
        fraction("m 27", x.battle(27, 10, true), x.battle(27, 10, false), 0, 1);
        x.fall(0);
        fraction("fallen, m 2", x.battle(2, 5, true), x.battle(2, 5, false), 1, 1);
        fraction("fallen, m 3", x.battle(3, 5, true), x.battle(3, 5, false), 1, 2);
        due("battle(-1, 0)", x.battle(-1, 0, true), BAD);
        due("battle(28, 0)", x.battle(28, 0, true), BAD);
        due("battle(0, -1)", x.battle(0, -1, false), BAD);
        due("battle(0, 11)", x.battle(0, 11, false), BAD);
        due("about(5)", x.about(5), 1);
        BreathBags five = made("BG0M00M00M00M00M00P00P10P20P30P40");
        fraction("all five", five.battle(5, 3, true), five.battle(5, 3, false), 243, 100000);
    }

    private static void seed() {
        promise = "28";
        BreathBags x = new BreathBags();
        due("seed(5)", x.seed(5), 0);
        due("seed(Long.MIN_VALUE)", x.seed(Long.MIN_VALUE), 5);
        due("seed(Long.MAX_VALUE)", x.seed(Long.MAX_VALUE), Long.MIN_VALUE);
        due("seed(-1)", x.seed(-1), Long.MAX_VALUE);
        due("seed(0)", x.seed(0), -1);
    }

    private static void years() {
        promise = "29";
        BreathBags x = made("BG0G1G2M90M01M92M03M10P00P11P22P32P40");
        String before = seen(x);
        due("years(0)", x.years(0), BAD);
        due("years(31)", x.years(31), BAD);
        due("years(LOW)", x.years(LOW), BAD);
        due("seed is as it was", x.seed(0), 0);
        x.years(1);
        due("the seed behind one", x.seed(0), 1442695040888963407L);
        due("years(30) can be", x.years(30) >= 0, true);
        due("the seed behind 30", x.seed(0), behind(30));
        due("all", seen(x), before);
        // Seeds whose first lot is 0 .. 39, so that each lot is seen once, alone.
        for (int lot = 0; lot < 40; lot++) {
            x.seed(seedOfLot(lot));
            due("years(1) of lot " + lot, x.years(1), 5 + changeByLot(lot));
        }
        due("all", seen(x), before);
    }

    private static long behind(int steps) {
        long seed = 0;
        for (int i = 0; i < steps; i++) {
            seed = seed * 6364136223846793005L + 1442695040888963407L;
        }
        return seed;
    }

    private static long seedOfLot(int lot) {
        for (long seed = 0; seed < 100000; seed++) {
            long next = seed * 6364136223846793005L + 1442695040888963407L;
            if ((next >>> 33) % 40 == lot) {
                return seed;
            }
        }
        return 0;
    }

    /** In years' regiment men 1 and 3 have no Sunday to put; claims are met by man * 3 + bag: 0, 4, 8, 11, 12; every bag has one; two leak one. */
    private static int changeByLot(int lot) {
        if (lot < 15) {
            return lot / 3 % 2 == 0 ? 1 : 0;
        }
        if (lot < 30) {
            int pair = lot - 15;
            return pair == 0 || pair == 4 || pair == 8 || pair == 11 || pair == 12 ? -1 : 0;
        }
        return -1;
    }

    private static void keep() {
        promise = "30";
        BreathBags x = made("BG0M90P00");
        due("keep(0)", x.keep(0), 0);
        x.day();
        due("keep(1)", x.keep(1), 1);
        due("keep(2)", x.keep(2), UNKNOWN);
        due("keep(-1)", x.keep(-1), UNKNOWN);
        due("about(9)", x.about(9), 1);
        due("again(0)", x.again(0), 0);
        due("again(1)", x.again(1), 1);
        x.day();
        due("keep(1)", x.keep(1), 2);
        due("again(0)", x.again(0), 0);
        due("again(1)", x.again(1), 2);
        due("keep of nothing", new BreathBags().keep(0), 0);
    }

    private static void again() {
        promise = "31";
        BreathBags x = made("BG0G2M92M00P00P10P01P11");
        for (int i = 0; i < 8; i++) {
            x.day();
        }
        x.march(0, 1);
        x.fall(1);
        due("again(0)", x.again(0), LATE);
        x.keep(0);
        due("again(1)", x.again(1), LATE);
        due("again(2)", x.again(2), UNKNOWN);
        due("again(-1)", x.again(-1), UNKNOWN);
        due("undo() is left", x.about(9), 10);
        x.undo();
        x.undo();
        x.keep(1);
        String kept = withoutActs(seen(x));
        x.slit(0);
        x.fall(0);
        for (int i = 0; i < 8; i++) {
            x.day();
        }
        due("again(1)", x.again(1), 8);
        due("all", withoutActs(seen(x)), kept);
        due("about(9)", x.about(9), 0);
        due("undo()", x.undo(), LATE);
        due("again(0)", x.again(0), 8);
        due("about(5)", x.about(5), 2);
        due("about(4)", x.about(4), 3);
        x.put(0, 1);
        due("again(0), once more", x.again(0), 8);
        due("bag(1, 1)", x.bag(1, 1), 0);
    }

    /** The tenth figure of what is seen is the number of acts. */
    private static String withoutActs(String seen) {
        String[] figures = seen.split(" ");
        figures[9] = "-";
        return String.join(" ", figures);
    }
}
