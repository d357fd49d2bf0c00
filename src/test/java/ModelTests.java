import java.util.ArrayDeque;
import java.util.ArrayList;
import java.util.Arrays;
import java.util.Deque;
import java.util.List;
import java.util.Random;

/** Runs of calls, chosen by fixed seeds, on the class and on a second program that tells the document plainly. */
public final class ModelTests {
    private static final int UNKNOWN = -1, BAD = -2, LATE = -3, FULL = -4, NONE = -9;
    private static final int RUNS = 3000, CALLS = 450;

    public static void main(String[] args) {
        long calls = 0;
        for (int run = 0; run < RUNS; run++) {
            Random random = new Random(run);
            BreathBags real = new BreathBags();
            Model model = new Model();
            List<String> told = new ArrayList<>();
            for (int i = 0; i < CALLS; i++) {
                Call call = choose(random, i);
                for (Call each : call.kind == Kind.TELL ? telling(random) : List.of(call)) {
                    long got = each.on(real);
                    long want = each.on(model);
                    told.add(each + " = " + got);
                    calls++;
                    if (got != want) {
                        System.out.println("run " + run + ": " + told);
                        System.out.println("the last is due as " + want);
                        System.exit(1);
                    }
                }
            }
        }
        System.out.println("ModelTests: " + calls + " calls, all alike");
    }

    private enum Kind {
        TELL, WRITE, WIPE, FAULT, REGIMENT, ABOUT, BAG, MAN, PUT, MARCH, CLAIM, SLIT, FALL, DAY, UNDO, LATER, HOLDS, NTH,
        WAITS, ROUTE, JUDGE, SHARE, FEEL, UNFEEL, WHICH, RESTS, BATTLE, SEED, YEARS, KEEP, AGAIN
    }

    private static final int[] WEIGHTS = {
        1, 1, 0, 1, 1, 8, 8, 8, 30, 8, 14, 2, 2, 20, 8, 6, 4, 6,
        6, 10, 16, 8, 6, 1, 10, 10, 10, 2, 8, 3, 3
    };

    private static Call choose(Random random, int i) {
        if (i == 0) {
            return new Call(Kind.TELL, 0, 0, 0, 0, 0, false);
        }
        int sum = Arrays.stream(WEIGHTS).sum();
        int at = random.nextInt(sum);
        int kind = 0;
        while (at >= WEIGHTS[kind]) {
            at -= WEIGHTS[kind];
            kind++;
        }
        return filled(Kind.values()[kind], random);
    }

    private static Call filled(Kind kind, Random r) {
        int man = edge(r, 4), bag = edge(r, 2);
        boolean upper = r.nextBoolean();
        switch (kind) {
            case WRITE: return new Call(kind, r.nextInt(258) - 1, 0, 0, 0, 0, upper);
            case ABOUT: return new Call(kind, edge(r, 11), 0, 0, 0, 0, upper);
            case BAG: return new Call(kind, bag, edge(r, 4), 0, 0, 0, upper);
            case MAN: return new Call(kind, man, edge(r, 5), 0, 0, 0, upper);
            case PUT: case CLAIM: case WAITS: return new Call(kind, man, bag, 0, 0, 0, upper);
            case MARCH: return new Call(kind, bag, r.nextInt(4) == 0 ? edge(r, 9) : 1 + r.nextInt(3), 0, 0, 0, upper);
            case SLIT: return new Call(kind, bag, 0, 0, 0, 0, upper);
            case FALL: case SHARE: return new Call(kind, man, 0, 0, 0, 0, upper);
            case LATER: return new Call(kind, man, edge(r, 40), edge(r, 1), 0, 0, upper);
            case HOLDS: return new Call(kind, bag, r.nextInt(3) == 0 ? edge(r, 40) : edge(r, 9), 0, 0, 0, upper);
            case NTH: return new Call(kind, bag, edge(r, 8), 0, 0, 0, upper);
            case ROUTE: return new Call(kind, r.nextInt(3) == 0 ? edge(r, 21) : 1 + r.nextInt(8), edge(r, 1), 0, 0, 0, upper);
            case JUDGE: return judging(r);
            case FEEL: return new Call(kind, man, bag, r.nextInt(3) == 0 ? edge(r, 10) : 1 + r.nextInt(4), edge(r, 1), 0, upper);
            case WHICH: return new Call(kind, edge(r, 1), 0, 0, 0, 0, upper);
            case RESTS: return new Call(kind, man, edge(r, 4), bag, edge(r, 1), 0, upper);
            case BATTLE: return new Call(kind, r.nextInt(3) == 0 ? edge(r, 27) : r.nextInt(12), edge(r, 10), 0, 0, 0, upper);
            case SEED: return new Call(kind, 0, 0, 0, 0, r.nextLong(), upper);
            case YEARS: return new Call(kind, edge(r, 31), 0, 0, 0, 0, upper);
            case KEEP: case AGAIN: return new Call(kind, edge(r, 1), 0, 0, 0, 0, upper);
            default: return new Call(kind, 0, 0, 0, 0, 0, upper);
        }
    }

    /** Mostly 0 .. most, at times one beside it or far away. */
    private static int edge(Random r, int most) {
        int lot = r.nextInt(40);
        if (lot == 0) {
            return -1;
        }
        if (lot == 1) {
            return most + 1;
        }
        return lot == 2 ? r.nextInt() : r.nextInt(most + 1);
    }

    private static Call judging(Random r) {
        int n = edge(r, 4);
        long row = 0;
        for (int i = 0; i < n && i < 5; i++) {
            int doing = r.nextInt(15) == 0 ? r.nextInt(10) : r.nextInt(7);
            int first = doing == 0 || doing > 3 && doing < 6 ? (r.nextInt(20) == 0 ? 1 : 0) : r.nextInt(4);
            int second = doing == 0 ? (r.nextInt(20) == 0 ? 1 : 0) : r.nextInt(r.nextInt(9) == 0 ? 10 : 3);
            row = row * 1000 + 100 * doing + 10 * first + second;
        }
        int lot = r.nextInt(30);
        if (lot == 0) {
            row = r.nextLong();
        } else if (lot == 1) {
            row = (long) Math.pow(10, 3 * Math.max(0, Math.min(4, n)));
        }
        return new Call(Kind.JUDGE, n, 0, 0, 0, row, false);
    }

    /** A text that is mostly a regiment, written whole, asked for faults, and made. */
    private static List<Call> telling(Random r) {
        StringBuilder text = new StringBuilder("B");
        int bags = 1 + r.nextInt(3), men = 1 + r.nextInt(5);
        for (int i = 0; i < bags; i++) {
            text.append('G').append(r.nextInt(4));
        }
        for (int i = 0; i < men; i++) {
            text.append('M').append(r.nextInt(10)).append(r.nextInt(4));
        }
        int breaths = r.nextInt(18);
        int narrow = r.nextInt(3) == 0 ? 1 : bags;
        for (int i = 0; i < breaths && text.length() < 60; i++) {
            text.append('P').append(r.nextInt(men)).append(r.nextInt(narrow));
        }
        if (r.nextInt(3) == 0) {
            String letters = "BGMP0123459 x";
            text.setCharAt(r.nextInt(text.length()), letters.charAt(r.nextInt(letters.length())));
        }
        if (r.nextInt(6) == 0) {
            text.setLength(r.nextInt(text.length() + 1));
        }
        List<Call> calls = new ArrayList<>();
        calls.add(new Call(Kind.WIPE, 0, 0, 0, 0, 0, false));
        for (int i = 0; i < text.length(); i++) {
            calls.add(new Call(Kind.WRITE, text.charAt(i), 0, 0, 0, 0, false));
        }
        calls.add(new Call(Kind.FAULT, 0, 0, 0, 0, 0, false));
        calls.add(new Call(Kind.REGIMENT, 0, 0, 0, 0, 0, false));
        return calls;
    }

    private record Call(Kind kind, int a, int b, int c, int d, long v, boolean upper) {
        long on(BreathBags x) {
            switch (kind) {
                case WRITE: return x.write(a);
                case WIPE: return x.wipe();
                case FAULT: return x.fault();
                case REGIMENT: return x.regiment();
                case ABOUT: return x.about(a);
                case BAG: return x.bag(a, b);
                case MAN: return x.man(a, b);
                case PUT: return x.put(a, b);
                case MARCH: return x.march(a, b);
                case CLAIM: return x.claim(a, b);
                case SLIT: return x.slit(a);
                case FALL: return x.fall(a);
                case DAY: return x.day();
                case UNDO: return x.undo();
                case LATER: return x.later(a, b, c);
                case HOLDS: return x.holds(a, b);
                case NTH: return x.nth(a, b);
                case WAITS: return x.waits(a, b);
                case ROUTE: return x.route(a, b);
                case JUDGE: return x.judge(a, v);
                case SHARE: return x.share(a, upper);
                case FEEL: return x.feel(a, b, c, d);
                case UNFEEL: return x.unfeel();
                case WHICH: return x.which(a);
                case RESTS: return x.rests(a, b, c, d);
                case BATTLE: return x.battle(a, b, upper);
                case SEED: return x.seed(v);
                case YEARS: return x.years(a);
                case KEEP: return x.keep(a);
                default: return x.again(a);
            }
        }

        long on(Model x) {
            switch (kind) {
                case WRITE: return x.write(a);
                case WIPE: return x.wipe();
                case FAULT: return x.fault();
                case REGIMENT: return x.regiment();
                case ABOUT: return x.about(a);
                case BAG: return x.bag(a, b);
                case MAN: return x.man(a, b);
                case PUT: return x.act(x.state.put(a, b));
                case MARCH: return x.act(x.state.march(a, b));
                case CLAIM: return x.act(x.state.claim(a, b));
                case SLIT: return x.act(x.state.slit(a));
                case FALL: return x.act(x.state.fall(a));
                case DAY: return x.act(x.state.day());
                case UNDO: return x.undo();
                case LATER: return x.later(a, b, c);
                case HOLDS: return x.holds(a, b);
                case NTH: return x.nth(a, b);
                case WAITS: return x.waits(a, b);
                case ROUTE: return x.route(a, b);
                case JUDGE: return x.judge(a, v);
                case SHARE: return x.share(a, upper);
                case FEEL: return x.feel(a, b, c, d);
                case UNFEEL: return x.unfeel();
                case WHICH: return x.which(a);
                case RESTS: return x.rests(a, b, c, d);
                case BATTLE: return x.battle(a, b, upper);
                case SEED: return x.seed(v);
                case YEARS: return x.years(a);
                case KEEP: return x.keep(a);
                default: return x.again(a);
            }
        }
    }

    /** What an act answers, and the state behind it; a refusal has none. */
    private record Done(long answer, State after) {
    }

    /** A state that is never changed once it is made: acts answer a new one. */
    private static final class State {
        final List<List<Integer>> bags = new ArrayList<>();
        final List<Integer> bagKinds = new ArrayList<>();
        final List<int[]> men = new ArrayList<>(); // kind, sundays, grief, lost, fell
        int day = 0;

        State copy() {
            State s = new State();
            bags.forEach(b -> s.bags.add(new ArrayList<>(b)));
            s.bagKinds.addAll(bagKinds);
            men.forEach(m -> s.men.add(m.clone()));
            s.day = day;
            return s;
        }

        boolean noBag(int bag) {
            return bag < 0 || bag >= bags.size();
        }

        boolean noMan(int man) {
            return man < 0 || man >= men.size();
        }

        int all() {
            return bags.stream().mapToInt(List::size).sum();
        }

        /** Breaths as they would be played. */
        List<Integer> order(int bag) {
            return played(bags.get(bag), bagKinds.get(bag));
        }

        static List<Integer> played(List<Integer> bag, int kind) {
            List<Integer> order = new ArrayList<>(bag);
            if (kind != 1) {
                java.util.Collections.reverse(order);
            }
            return order;
        }

        int of(int man) {
            return (int) bags.stream().flatMap(List::stream).filter(m -> m == man).count();
        }

        int left() {
            return (int) bags.stream().flatMap(List::stream).filter(m -> men.get(m)[4] == 1).count();
        }

        Done put(int man, int bag) {
            if (noMan(man) || noBag(bag)) {
                return new Done(UNKNOWN, null);
            }
            if (men.get(man)[4] == 1 || men.get(man)[1] == 0) {
                return new Done(LATE, null);
            }
            if (bags.get(bag).size() == 9) {
                return new Done(FULL, null);
            }
            State s = copy();
            s.men.get(man)[1]--;
            s.bags.get(bag).add(man);
            return new Done(s.bags.get(bag).size(), s);
        }

        Done march(int bag, int n) {
            if (noBag(bag)) {
                return new Done(UNKNOWN, null);
            }
            if (n < 1 || n > 9) {
                return new Done(BAD, null);
            }
            if (bags.get(bag).size() < n) {
                return new Done(LATE, null);
            }
            State s = copy();
            for (int i = 0; i < n; i++) {
                List<Integer> b = s.bags.get(bag);
                s.men.get(b.remove(bagKinds.get(bag) == 1 ? 0 : b.size() - 1))[3]++;
            }
            return new Done(s.bags.get(bag).size(), s);
        }

        Done claim(int man, int bag) {
            if (noMan(man) || noBag(bag)) {
                return new Done(UNKNOWN, null);
            }
            if (men.get(man)[4] == 1 || bagKinds.get(bag) == 3 || !bags.get(bag).contains(man)) {
                return new Done(LATE, null);
            }
            State s = copy();
            List<Integer> b = s.bags.get(bag);
            int at = bagKinds.get(bag) == 1 ? b.indexOf(man) : b.lastIndexOf(man);
            b.remove(at);
            s.men.get(man)[1] = Math.min(99, s.men.get(man)[1] + 1);
            return new Done(s.men.get(man)[1], s);
        }

        Done slit(int bag) {
            if (noBag(bag)) {
                return new Done(UNKNOWN, null);
            }
            if (bags.get(bag).isEmpty()) {
                return new Done(LATE, null);
            }
            State s = copy();
            bags.get(bag).forEach(m -> s.men.get(m)[3]++);
            s.bags.get(bag).clear();
            return new Done(bags.get(bag).size(), s);
        }

        Done fall(int man) {
            if (noMan(man)) {
                return new Done(UNKNOWN, null);
            }
            if (men.get(man)[4] == 1) {
                return new Done(LATE, null);
            }
            State s = copy();
            s.men.get(man)[4] = 1;
            return new Done(s.left(), s);
        }

        Done day() {
            State s = copy();
            int lost = 0;
            for (int b = 0; b < bags.size(); b++) {
                if (bagKinds.get(b) == 2 && !bags.get(b).isEmpty()) {
                    s.men.get(s.bags.get(b).remove(0))[3]++;
                    lost++;
                }
            }
            for (int[] m : s.men) {
                if (day % 7 != 6 || m[4] == 1) {
                    continue;
                }
                boolean spends = m[0] == 1 ? m[1] >= 2 : m[1] >= 1;
                m[1] -= spends ? 1 : 0;
                m[2] += spends ? 0 : new int[] {1, 1, 2, 0}[m[0]];
            }
            s.day++;
            return new Done(lost, s);
        }

        State days(int n) {
            State s = this;
            for (int i = 0; i < n; i++) {
                s = s.day().after();
            }
            return s;
        }
    }

    private static final class Model {
        String text = "";
        State state = new State();
        Deque<State> past = new ArrayDeque<>();
        State[] kept = new State[2];
        List<int[]> felt = new ArrayList<>();
        long seed = 0;

        int write(int letter) {
            if (letter < 0 || letter > 255) {
                return BAD;
            }
            if (text.length() == 60) {
                return FULL;
            }
            text += (char) letter;
            return text.length();
        }

        int wipe() {
            int was = text.length();
            text = "";
            return was;
        }

        /** Null, if the text is no regiment. */
        static State read(String text) {
            if (!text.matches("(?s)B(G[0-3]|M[0-9][0-3]|P[0-4][0-2])*")) {
                return null;
            }
            State s = new State();
            String rest = text.substring(1);
            while (!rest.isEmpty()) {
                int first = rest.charAt(1) - '0';
                if (rest.charAt(0) == 'G') {
                    s.bags.add(new ArrayList<>());
                    s.bagKinds.add(first);
                    rest = rest.substring(2);
                } else {
                    int second = rest.charAt(2) - '0';
                    if (rest.charAt(0) == 'M') {
                        s.men.add(new int[] {second, first, 0, 0, 0});
                    } else if (s.noMan(first) || s.noBag(second) || s.bags.get(second).size() == 9) {
                        return null;
                    } else {
                        s.bags.get(second).add(first);
                    }
                    rest = rest.substring(3);
                }
            }
            return s.bags.size() > 3 || s.men.size() > 5 ? null : s;
        }

        /** No thing needs more than two letters to come to its end. */
        static boolean canBecome(String text, int more) {
            if (read(text) != null) {
                return true;
            }
            if (more > 0) {
                for (char c : "B0123456789".toCharArray()) {
                    if (canBecome(text + c, more - 1)) {
                        return true;
                    }
                }
            }
            return false;
        }

        int fault() {
            if (read(text) != null) {
                return NONE;
            }
            for (int i = 0; i < text.length(); i++) {
                if (!canBecome(text.substring(0, i + 1), 2)) {
                    return i;
                }
            }
            return text.length();
        }

        int regiment() {
            State s = read(text);
            if (s == null) {
                return LATE;
            }
            state = s;
            past.clear();
            kept = new State[2];
            return 100 * s.bags.size() + 10 * s.men.size() + s.all();
        }

        int sum(int what) {
            return state.men.stream().mapToInt(m -> m[what]).sum();
        }

        int about(int what) {
            if (what < 0 || what > 11) {
                return BAD;
            }
            int fell = 0;
            for (int m = 0; m < state.men.size(); m++) {
                fell += state.men.get(m)[4] << m;
            }
            return new int[] {state.bags.size(), state.men.size(), state.day, state.all(), sum(3), fell, state.left(),
                sum(1), sum(2), past.size(), felt.size(), text.length()}[what];
        }

        int bag(int bag, int what) {
            if (state.noBag(bag)) {
                return UNKNOWN;
            }
            if (what < 0 || what > 4) {
                return BAD;
            }
            List<Integer> b = state.bags.get(bag);
            int bits = b.stream().distinct().mapToInt(m -> 1 << m).sum();
            int low = b.isEmpty() ? NONE : b.get(0);
            int top = b.isEmpty() ? NONE : b.get(b.size() - 1);
            return new int[] {state.bagKinds.get(bag), b.size(), low, top, bits}[what];
        }

        int man(int man, int what) {
            if (state.noMan(man)) {
                return UNKNOWN;
            }
            if (what < 0 || what > 5) {
                return BAD;
            }
            int[] m = state.men.get(man);
            return new int[] {m[0], m[1], m[2], state.of(man), m[3], m[4]}[what];
        }

        long act(Done done) {
            if (done.after() != null) {
                past.addLast(state);
                if (past.size() > 14) {
                    past.removeFirst();
                }
                state = done.after();
            }
            return done.answer();
        }

        int undo() {
            if (past.isEmpty()) {
                return LATE;
            }
            state = past.removeLast();
            return past.size();
        }

        int later(int man, int n, int what) {
            if (state.noMan(man)) {
                return UNKNOWN;
            }
            if (n < 0 || n > 40 || what < 0 || what > 1) {
                return BAD;
            }
            return state.days(n).men.get(man)[1 + what];
        }

        int holds(int bag, int n) {
            if (state.noBag(bag)) {
                return UNKNOWN;
            }
            return n < 0 || n > 40 ? BAD : state.days(n).bags.get(bag).size();
        }

        int nth(int bag, int k) {
            if (state.noBag(bag)) {
                return UNKNOWN;
            }
            if (k < 0 || k > 8) {
                return BAD;
            }
            List<Integer> order = state.order(bag);
            return k < order.size() ? order.get(k) : NONE;
        }

        int waits(int man, int bag) {
            return state.noMan(man) || state.noBag(bag) ? UNKNOWN : state.order(bag).lastIndexOf(man) + 1;
        }

        int route(int n, int what) {
            if (n < 1 || n > 20 || what < 0 || what > 1) {
                return BAD;
            }
            int best = NONE, fewest = 99;
            for (int way = 0; way < Math.pow(10, state.bags.size()); way++) {
                List<Integer> losers = new ArrayList<>();
                int figures = way;
                boolean can = true;
                for (int b = state.bags.size() - 1; b >= 0; b--) {
                    List<Integer> order = state.order(b);
                    can &= figures % 10 <= order.size();
                    losers.addAll(order.subList(0, Math.min(order.size(), figures % 10)));
                    figures /= 10;
                }
                int few = (int) losers.stream().distinct().count();
                if (can && losers.size() == n && few < fewest) {
                    fewest = few;
                    best = way;
                }
            }
            return best == NONE ? NONE : what == 0 ? fewest : best;
        }

        int judge(int n, long row) {
            if (n < 1 || n > 4 || row < 0 || Long.toString(row).length() > 3 * n) {
                return BAD;
            }
            String figures = String.format("%0" + 3 * n + "d", row);
            State s = state;
            for (int i = 0; i < n; i++) {
                int a = figures.charAt(3 * i + 1) - '0', b = figures.charAt(3 * i + 2) - '0';
                Done done = new Done(BAD, null);
                switch (figures.charAt(3 * i)) {
                    case '0': done = a == 0 && b == 0 ? s.day() : done; break;
                    case '1': done = s.put(a, b); break;
                    case '2': done = s.march(a, b); break;
                    case '3': done = s.claim(a, b); break;
                    case '4': done = a == 0 ? s.slit(b) : done; break;
                    case '5': done = a == 0 ? s.fall(b) : done; break;
                    case '6': done = !s.noMan(a) && s.men.get(a)[1] >= b ? new Done(0, s) : done; break;
                    default: break;
                }
                if (done.after() == null) {
                    return i;
                }
                s = done.after();
            }
            return NONE;
        }

        static int fraction(long above, long below, boolean upper) {
            long by = java.math.BigInteger.valueOf(above).gcd(java.math.BigInteger.valueOf(below)).longValue();
            return (int) ((upper ? above : below) / by);
        }

        /** Walks through every order: answers marches that the man made and the number of orders. */
        long[] orders(int man, List<Integer> come, int breaths) {
            if (come.size() == state.men.size()) {
                return new long[] {0, 1};
            }
            long[] sum = {0, 0};
            for (int m = 0; m < state.men.size(); m++) {
                if (come.contains(m)) {
                    continue;
                }
                List<Integer> next = new ArrayList<>(come);
                next.add(m);
                int more = breaths + state.of(m);
                long[] behind = orders(man, next, more);
                sum[0] += behind[0] + (m == man ? (more / 4 - breaths / 4) * behind[1] : 0);
                sum[1] += behind[1];
            }
            return sum;
        }

        int share(int man, boolean upper) {
            if (state.noMan(man)) {
                return UNKNOWN;
            }
            long[] sum = orders(man, List.of(), 0);
            return fraction(sum[0], sum[1], upper);
        }

        int feel(int man, int bag, int n, int played) {
            if (state.noMan(man) || state.noBag(bag)) {
                return UNKNOWN;
            }
            if (n < 1 || n > 9 || played < 0 || played > 1) {
                return BAD;
            }
            if (felt.size() == 6) {
                return FULL;
            }
            felt.add(new int[] {man, bag, n, played});
            return felt.size();
        }

        int unfeel() {
            int was = felt.size();
            felt.clear();
            return was;
        }

        boolean isSo(int[] f, int kind, int days) {
            if (state.noMan(f[0]) || state.noBag(f[1])) {
                return true;
            }
            List<Integer> bag = state.bags.get(f[1]);
            if (kind == 2) {
                bag = bag.subList(Math.min(days, bag.size()), bag.size());
            }
            List<Integer> order = State.played(bag, kind);
            return order.subList(0, Math.min(f[2], order.size())).contains(f[0]) == (f[3] == 1);
        }

        int which(int what) {
            if (what < 0 || what > 1) {
                return BAD;
            }
            List<Integer> fit = new ArrayList<>();
            for (int at = 0; at < 40; at++) {
                int kind = at / 10, days = at % 10;
                if (felt.stream().allMatch(f -> isSo(f, kind, days))) {
                    fit.add(at);
                }
            }
            return what == 0 ? fit.size() : fit.isEmpty() ? NONE : fit.get(0);
        }

        /** What both have when they choose so. */
        int[] gains(int one, int other, int bag, int a, int b) {
            State s = state;
            int[] gain = {0, 0};
            Done first = s.claim(one, bag);
            if (a == 1 && first.after() != null) {
                s = first.after();
                gain[0] += 2;
            }
            Done second = s.claim(other, bag);
            if (b == 1 && second.after() != null) {
                s = second.after();
                gain[1] += 2;
            }
            for (int m : s.bags.get(bag)) {
                gain[0] += m == one ? 1 : 0;
                gain[1] += m == other ? 1 : 0;
            }
            int both = s.bags.get(bag).size() >= 3 ? 3 : 0;
            return new int[] {gain[0] + both, gain[1] + both};
        }

        int rests(int one, int other, int bag, int what) {
            if (state.noMan(one) || state.noMan(other) || state.noBag(bag)) {
                return UNKNOWN;
            }
            if (one == other || what < 0 || what > 1) {
                return BAD;
            }
            List<Integer> rest = new ArrayList<>();
            for (int pair : new int[] {0, 1, 10, 11}) {
                int a = pair / 10, b = pair % 10;
                int[] now = gains(one, other, bag, a, b);
                if (gains(one, other, bag, 1 - a, b)[0] <= now[0] && gains(one, other, bag, a, 1 - b)[1] <= now[1]) {
                    rest.add(pair);
                }
            }
            return what == 0 ? rest.size() : rest.isEmpty() ? NONE : rest.get(0);
        }

        /** Tenths, multiplied man by man, by which m or more are left. */
        long chances(int man, int left, int m, int x) {
            if (man == state.men.size()) {
                return left >= m ? 1 : 0;
            }
            int with = left + state.of(man);
            if (state.men.get(man)[4] == 1) {
                return 10 * chances(man + 1, with, m, x);
            }
            return x * chances(man + 1, with, m, x) + (10 - x) * chances(man + 1, left, m, x);
        }

        int battle(int m, int x, boolean upper) {
            if (m < 0 || m > 27 || x < 0 || x > 10) {
                return BAD;
            }
            return fraction(chances(0, 0, m, x), (long) Math.pow(10, state.men.size()), upper);
        }

        long seed(long v) {
            long was = seed;
            seed = v;
            return was;
        }

        int years(int m) {
            if (m < 1 || m > 30) {
                return BAD;
            }
            State s = state;
            int together = 0;
            for (int i = 0; i < m; i++) {
                seed = seed * 6364136223846793005L + 1442695040888963407L;
                int lot = (int) Long.remainderUnsigned(seed >>> 33, 40);
                Done done = lot < 15 ? s.put(lot / 3, lot % 3)
                    : lot < 30 ? s.claim((lot - 15) / 3, lot % 3)
                    : lot < 33 ? s.march(lot - 30, 1) : s.day();
                s = done.after() == null ? s : done.after();
                together += s.all();
            }
            return together;
        }

        int keep(int slot) {
            if (slot < 0 || slot > 1) {
                return UNKNOWN;
            }
            kept[slot] = state;
            return state.day;
        }

        int again(int slot) {
            if (slot < 0 || slot > 1) {
                return UNKNOWN;
            }
            if (kept[slot] == null) {
                return LATE;
            }
            state = kept[slot];
            past.clear();
            return state.day;
        }
    }
}
