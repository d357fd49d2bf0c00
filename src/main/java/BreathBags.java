/** Bags that hold the breath of a regiment, as ../shared/DOC.md promises. */
public final class BreathBags {
    public static final int UNKNOWN = -1, BAD = -2, LATE = -3, FULL = -4, NONE = -9;

    private static final int MOST_BAGS = 3, MOST_MEN = 5, MOST_BREATHS = 9;
    private static final int DEEP = 1, LEAKY = 2, SEALED = 3, LAST_KIND = 3;
    private static final int MISER = 1, DRUMMER = 2, PIPER = 3;
    private static final int MOST_SUNDAYS = 99, MOST_DAYS_AHEAD = 40, MOST_DAYS_OLD = 9;
    private static final int MOST_ROUTE = 20, WHOLE_MARCH = 4, MOST_DOINGS = 4;
    private static final int ENOUGH_TO_PLAY = 3, MOST_LEFT = 27, MOST_YEARS = 30;
    private static final int LOTS = 40, FIRST_CLAIM = 15, FIRST_MARCH = 30, FIRST_DAY = 33;
    private static final long STRIDE = 6364136223846793005L, SHIFT = 1442695040888963407L;

    private final Text text = new Text();
    private final Camp now = new Camp();
    // What must change nothing is tried out here, so that no call makes a camp of its own.
    private final Camp trial = new Camp();
    private final Past past = new Past();
    private final Slots slots = new Slots();
    private final Felt felt = new Felt();
    private long chance = 0;

    public BreathBags() {
    }

    // ---- the regiment

    public int write(int letter) {
        return text.add(letter);
    }

    public int wipe() {
        return text.clear();
    }

    public int fault() {
        return text.tellTo(trial);
    }

    public int regiment() {
        if (text.tellTo(trial) != NONE) {
            return LATE;
        }
        now.becomeAll(trial);
        past.clear();
        slots.clear();
        return 100 * now.bags + 10 * now.men + now.breathsInAll();
    }

    public int about(int what) {
        switch (what) {
            case 0: return now.bags;
            case 1: return now.men;
            case 2: return now.today();
            case 3: return now.breathsInAll();
            case 4: return now.sumOfMen(Camp.LOST);
            case 5: return now.fallenBits();
            case 6: return now.left();
            case 7: return now.sumOfMen(Camp.SUNDAYS);
            case 8: return now.sumOfMen(Camp.GRIEVED);
            case 9: return past.count;
            case 10: return felt.count;
            case 11: return text.length;
            default: return BAD;
        }
    }

    public int bag(int bag, int what) {
        if (!now.isBag(bag)) {
            return UNKNOWN;
        }
        int many = now.breathsIn(bag);
        switch (what) {
            case 0: return now.kindOfBag(bag);
            case 1: return many;
            case 2: return many == 0 ? NONE : now.owner(bag, 0);
            case 3: return many == 0 ? NONE : now.owner(bag, many - 1);
            case 4: return now.playedBits(bag, many);
            default: return BAD;
        }
    }

    public int man(int man, int what) {
        if (!now.isMan(man)) {
            return UNKNOWN;
        }
        switch (what) {
            case 0: return now.kindOfMan(man);
            case 1: return now.ofMan(Camp.SUNDAYS, man);
            case 2: return now.ofMan(Camp.GRIEVED, man);
            case 3: return now.breathsOf(man);
            case 4: return now.ofMan(Camp.LOST, man);
            case 5: return now.hasFallen(man) ? 1 : 0;
            default: return BAD;
        }
    }

    // ---- acts

    public int put(int man, int bag) {
        trial.becomeAll(now);
        return remembered(now.giveBreath(man, bag));
    }

    public int march(int bag, int n) {
        trial.becomeAll(now);
        return remembered(now.playBreaths(bag, n));
    }

    public int claim(int man, int bag) {
        trial.becomeAll(now);
        return remembered(now.takeBack(man, bag));
    }

    public int slit(int bag) {
        trial.becomeAll(now);
        return remembered(now.cutOpen(bag));
    }

    public int fall(int man) {
        trial.becomeAll(now);
        return remembered(now.loseMan(man));
    }

    public int day() {
        trial.becomeAll(now);
        return remembered(now.passDay());
    }

    public int undo() {
        return past.count == 0 ? LATE : past.goBack(now);
    }

    /** Refusals are below 0 and have changed nothing, so only other answers are ACTS. */
    private int remembered(int answer) {
        if (answer >= 0) {
            past.remember(trial);
        }
        return answer;
    }

    // ---- days to come, marches

    public int later(int man, int n, int what) {
        if (!now.isMan(man)) {
            return UNKNOWN;
        }
        if (n < 0 || n > MOST_DAYS_AHEAD || what < 0 || what > 1) {
            return BAD;
        }
        tryDays(n);
        return trial.ofMan(what == 0 ? Camp.SUNDAYS : Camp.GRIEVED, man);
    }

    public int holds(int bag, int n) {
        if (!now.isBag(bag)) {
            return UNKNOWN;
        }
        if (n < 0 || n > MOST_DAYS_AHEAD) {
            return BAD;
        }
        tryDays(n);
        return trial.breathsIn(bag);
    }

    private void tryDays(int n) {
        trial.becomeAll(now);
        for (int i = 0; i < n; i++) {
            trial.passDay();
        }
    }

    public int nth(int bag, int k) {
        if (!now.isBag(bag)) {
            return UNKNOWN;
        }
        if (k < 0 || k >= MOST_BREATHS) {
            return BAD;
        }
        return k < now.breathsIn(bag) ? now.owner(bag, now.placePlayed(bag, k)) : NONE;
    }

    public int waits(int man, int bag) {
        if (!now.isMan(man) || !now.isBag(bag)) {
            return UNKNOWN;
        }
        int till = 0;
        for (int k = 0; k < now.breathsIn(bag); k++) {
            if (now.owner(bag, now.placePlayed(bag, k)) == man) {
                till = k + 1;
            }
        }
        return till;
    }

    public int route(int n, int what) {
        if (n < 1 || n > MOST_ROUTE || what < 0 || what > 1) {
            return BAD;
        }
        int way = Sums.bestWay(now, n);
        if (way == NONE) {
            return NONE;
        }
        return what == 0 ? Sums.losersBy(now, way) : Sums.figuresOf(now, way);
    }

    public int judge(int n, long row) {
        if (n < 1 || n > MOST_DOINGS || row < 0) {
            return BAD;
        }
        long scale = 1;
        for (int i = 0; i < n; i++) {
            scale *= 1000;
        }
        if (row >= scale) {
            return BAD;
        }
        trial.becomeAll(now);
        for (int i = 0; i < n; i++) {
            scale /= 1000;
            int doing = scale > 0 ? (int) (row / scale % 1000) : 0;
            if (!trial.canDo(doing / 100, doing / 10 % 10, doing % 10)) {
                return i;
            }
        }
        return NONE;
    }

    public int share(int man, boolean upper) {
        return now.isMan(man) ? Sums.shareOf(now, man, upper) : UNKNOWN;
    }

    // ---- felt

    public int feel(int man, int bag, int n, int played) {
        if (!now.isMan(man) || !now.isBag(bag)) {
            return UNKNOWN;
        }
        if (n < 1 || n > MOST_BREATHS || played < 0 || played > 1) {
            return BAD;
        }
        return felt.add(man, bag, n, played);
    }

    public int unfeel() {
        return felt.clear();
    }

    public int which(int what) {
        if (what < 0 || what > 1) {
            return BAD;
        }
        int many = 0;
        int first = NONE;
        for (int kind = 0; kind <= LAST_KIND; kind++) {
            for (int days = 0; days <= MOST_DAYS_OLD; days++) {
                if (felt.fits(now, kind, days)) {
                    many++;
                    first = first == NONE ? 10 * kind + days : first;
                }
            }
        }
        return what == 0 ? many : first;
    }

    // ---- rests, chances

    public int rests(int one, int other, int bag, int what) {
        if (!now.isMan(one) || !now.isMan(other) || !now.isBag(bag)) {
            return UNKNOWN;
        }
        if (one == other || what < 0 || what > 1) {
            return BAD;
        }
        int many = 0;
        int first = NONE;
        for (int pair = 0; pair < 4; pair++) {
            if (isRest(one, other, bag, pair)) {
                many++;
                first = first == NONE ? 10 * (pair / 2) + pair % 2 : first;
            }
        }
        return what == 0 ? many : first;
    }

    /** A pair is 2 times the choice of the one and that of the other. */
    private boolean isRest(int one, int other, int bag, int pair) {
        tryClaims(one, other, bag, pair ^ 2);
        int oneElse = gainOf(one, bag);
        tryClaims(one, other, bag, pair ^ 1);
        int otherElse = gainOf(other, bag);
        tryClaims(one, other, bag, pair);
        return gainOf(one, bag) >= oneElse && gainOf(other, bag) >= otherElse;
    }

    private void tryClaims(int one, int other, int bag, int pair) {
        trial.becomeAll(now);
        if (pair / 2 == 1) {
            trial.takeBack(one, bag);
        }
        if (pair % 2 == 1) {
            trial.takeBack(other, bag);
        }
    }

    private int gainOf(int man, int bag) {
        int had = now.breathsOfIn(man, bag);
        int has = trial.breathsOfIn(man, bag);
        int gain = has < had ? 2 + has : has;
        return trial.breathsIn(bag) >= ENOUGH_TO_PLAY ? gain + 3 : gain;
    }

    public int battle(int m, int x, boolean upper) {
        if (m < 0 || m > MOST_LEFT || x < 0 || x > 10) {
            return BAD;
        }
        return Sums.chanceOfLeft(now, m, x, upper);
    }

    public long seed(long v) {
        long was = chance;
        chance = v;
        return was;
    }

    public int years(int m) {
        if (m < 1 || m > MOST_YEARS) {
            return BAD;
        }
        trial.becomeAll(now);
        int together = 0;
        for (int i = 0; i < m; i++) {
            chance = chance * STRIDE + SHIFT;
            tryLot((int) ((chance >>> 33) % LOTS));
            together += trial.breathsInAll();
        }
        return together;
    }

    /** What can not be is refused by the camp, and then nothing comes of the lot. */
    private void tryLot(int lot) {
        if (lot < FIRST_CLAIM) {
            trial.giveBreath(lot / 3, lot % 3);
        } else if (lot < FIRST_MARCH) {
            trial.takeBack((lot - FIRST_CLAIM) / 3, (lot - FIRST_CLAIM) % 3);
        } else if (lot < FIRST_DAY) {
            trial.playBreaths(lot - FIRST_MARCH, 1);
        } else {
            trial.passDay();
        }
    }

    // ---- slots

    public int keep(int slot) {
        if (!slots.isSlot(slot)) {
            return UNKNOWN;
        }
        slots.store(slot, now);
        return now.today();
    }

    public int again(int slot) {
        if (!slots.isSlot(slot)) {
            return UNKNOWN;
        }
        if (!slots.isKept(slot)) {
            return LATE;
        }
        slots.fetch(slot, now);
        past.clear();
        return now.today();
    }

    /** THE TEXT, and how it is told as a regiment. */
    private static final class Text {
        private static final int MOST = 60, LAST_LETTER = 255, CUT_OFF = -1;

        private final int[] letters = new int[MOST];
        private int length = 0;

        int add(int letter) {
            if (letter < 0 || letter > LAST_LETTER) {
                return BAD;
            }
            if (length < 0 || length >= letters.length) {
                return FULL;
            }
            letters[length] = letter;
            length++;
            return length;
        }

        int clear() {
            int was = length;
            length = 0;
            return was;
        }

        /** Behind the end stands CUT_OFF, which fits nowhere: so a text that is not at its end faults at its length. */
        private int letterAt(int place) {
            return place >= 0 && place < length && place < letters.length ? letters[place] : CUT_OFF;
        }

        private int figureAt(int place) {
            int letter = letterAt(place);
            return letter >= '0' && letter <= '9' ? letter - '0' : CUT_OFF;
        }

        /** The camp becomes what is told ahead of the fault; the answer is FAULT or NONE. */
        int tellTo(Camp camp) {
            camp.empty();
            if (letterAt(0) != 'B') {
                return 0;
            }
            for (int place = 1; place < length; place += letterAt(place) == 'G' ? 2 : 3) {
                int wrong = tellThing(place, camp);
                if (wrong != NONE) {
                    return wrong;
                }
            }
            return NONE;
        }

        private int tellThing(int place, Camp camp) {
            switch (letterAt(place)) {
                case 'G': return tellBag(place, camp);
                case 'M': return tellMan(place, camp);
                case 'P': return tellBreath(place, camp);
                default: return place;
            }
        }

        private int tellBag(int place, Camp camp) {
            if (camp.bags >= MOST_BAGS) {
                return place;
            }
            int kind = figureAt(place + 1);
            if (kind < 0 || kind > LAST_KIND) {
                return place + 1;
            }
            camp.addBag(kind);
            return NONE;
        }

        private int tellMan(int place, Camp camp) {
            if (camp.men >= MOST_MEN) {
                return place;
            }
            int sundays = figureAt(place + 1);
            if (sundays < 0) {
                return place + 1;
            }
            int kind = figureAt(place + 2);
            if (kind < 0 || kind > LAST_KIND) {
                return place + 2;
            }
            camp.addMan(sundays, kind);
            return NONE;
        }

        private int tellBreath(int place, Camp camp) {
            if (camp.men == 0 || !camp.hasRoom()) {
                return place;
            }
            int man = figureAt(place + 1);
            if (!camp.isMan(man)) {
                return place + 1;
            }
            int bag = figureAt(place + 2);
            if (!camp.isBag(bag) || camp.breathsIn(bag) >= MOST_BREATHS) {
                return place + 2;
            }
            camp.lay(man, bag);
            return NONE;
        }
    }

    /** Bags, men, and what has become of them. */
    private static final class Camp {
        // Cells: the day, who fell (bits), three rows by man, two rows by bag.
        private static final int DAY = 0, FALLEN = 1, SUNDAYS = 2, GRIEVED = SUNDAYS + MOST_MEN;
        private static final int LOST = GRIEVED + MOST_MEN, COUNT = LOST + MOST_MEN;
        private static final int PILE = COUNT + MOST_BAGS, CELLS = PILE + MOST_BAGS;
        // A pile has its breaths' owners in one number, 3 bits each, the lowest breath in the lowest bits.
        private static final int OWNER_BITS = 3, OWNER_MASK = 7;

        private int bags = 0;
        private int men = 0;
        private final int[] bagKinds = new int[MOST_BAGS];
        private final int[] manKinds = new int[MOST_MEN];
        private final int[] cells = new int[CELLS];

        // -- how it is made and copied

        void empty() {
            bags = 0;
            men = 0;
            for (int i = 0; i < cells.length; i++) {
                cells[i] = 0;
            }
        }

        void becomeAll(Camp from) {
            bags = from.bags;
            men = from.men;
            for (int i = 0; i < MOST_BAGS; i++) {
                bagKinds[i] = from.bagKinds[i];
            }
            for (int i = 0; i < MOST_MEN; i++) {
                manKinds[i] = from.manKinds[i];
            }
            for (int i = 0; i < CELLS; i++) {
                cells[i] = from.cells[i];
            }
        }

        void copyTo(int[] rows, int row) {
            for (int i = 0; i < CELLS; i++) {
                int at = row * CELLS + i;
                if (at >= 0 && at < rows.length) {
                    rows[at] = cells[i];
                }
            }
        }

        void copyFrom(int[] rows, int row) {
            for (int i = 0; i < CELLS; i++) {
                int at = row * CELLS + i;
                if (at >= 0 && at < rows.length) {
                    cells[i] = rows[at];
                }
            }
        }

        void addBag(int kind) {
            if (bags >= 0 && bags < bagKinds.length) {
                bagKinds[bags] = kind;
                bags++;
            }
        }

        void addMan(int sundays, int kind) {
            if (men >= 0 && men < manKinds.length) {
                manKinds[men] = kind;
                men++;
                addTo(SUNDAYS + men - 1, sundays);
            }
        }

        // -- what there is

        private int cell(int at) {
            return at >= 0 && at < cells.length ? cells[at] : 0;
        }

        private void setCell(int at, int value) {
            if (at >= 0 && at < cells.length) {
                cells[at] = value;
            }
        }

        private void addTo(int at, int more) {
            setCell(at, cell(at) + more);
        }

        boolean isBag(int bag) {
            return bag >= 0 && bag < bags;
        }

        boolean isMan(int man) {
            return man >= 0 && man < men;
        }

        int kindOfBag(int bag) {
            return bag >= 0 && bag < bags && bag < bagKinds.length ? bagKinds[bag] : NONE;
        }

        int kindOfMan(int man) {
            return man >= 0 && man < men && man < manKinds.length ? manKinds[man] : NONE;
        }

        int today() {
            return cell(DAY);
        }

        int fallenBits() {
            return cell(FALLEN);
        }

        boolean hasFallen(int man) {
            return (fallenBits() >> man & 1) == 1;
        }

        int ofMan(int row, int man) {
            return isMan(man) ? cell(row + man) : 0;
        }

        int sumOfMen(int row) {
            int sum = 0;
            for (int man = 0; man < men; man++) {
                sum += ofMan(row, man);
            }
            return sum;
        }

        int breathsIn(int bag) {
            return isBag(bag) ? cell(COUNT + bag) : 0;
        }

        int breathsInAll() {
            int sum = 0;
            for (int bag = 0; bag < bags; bag++) {
                sum += cell(COUNT + bag);
            }
            return sum;
        }

        boolean hasRoom() {
            return breathsInAll() < MOST_BREATHS * bags;
        }

        int owner(int bag, int place) {
            return cell(PILE + bag) >> OWNER_BITS * place & OWNER_MASK;
        }

        int breathsOfIn(int man, int bag) {
            int sum = 0;
            for (int place = 0; place < breathsIn(bag); place++) {
                sum += owner(bag, place) == man ? 1 : 0;
            }
            return sum;
        }

        int breathsOf(int man) {
            return breathsOfThese(1 << man);
        }

        /** Breaths in all bags of those men whose bits are set. */
        int breathsOfThese(int bits) {
            int sum = 0;
            for (int bag = 0; bag < bags; bag++) {
                for (int place = 0; place < breathsIn(bag); place++) {
                    sum += bits >> owner(bag, place) & 1;
                }
            }
            return sum;
        }

        int left() {
            return breathsOfThese(fallenBits());
        }

        /** The place of the breath that is played when k were played ahead of it. */
        int placePlayed(int bag, int k) {
            return kindOfBag(bag) == DEEP ? k : breathsIn(bag) - 1 - k;
        }

        /** Men of whom a breath is played, if n are, or all there are. */
        int playedBits(int bag, int n) {
            return playedBitsAs(bag, n, kindOfBag(bag), 0);
        }

        /** The same, if the bag were of that kind and its lowest breaths, so many, were gone. */
        int playedBitsAs(int bag, int n, int kind, int gone) {
            int many = breathsIn(bag);
            int bits = 0;
            for (int k = 0; k < n && k < many - gone; k++) {
                bits |= 1 << owner(bag, kind == DEEP ? gone + k : many - 1 - k);
            }
            return bits;
        }

        // -- what is done

        void lay(int man, int bag) {
            int many = breathsIn(bag);
            if (many < MOST_BREATHS) {
                setCell(PILE + bag, cell(PILE + bag) | man << OWNER_BITS * many);
                setCell(COUNT + bag, many + 1);
            }
        }

        private void lift(int bag, int place) {
            int pile = cell(PILE + bag);
            int below = pile & (1 << OWNER_BITS * place) - 1;
            int above = pile >> OWNER_BITS * (place + 1) << OWNER_BITS * place;
            setCell(PILE + bag, above | below);
            addTo(COUNT + bag, -1);
        }

        private void lose(int bag, int place) {
            addTo(LOST + owner(bag, place), 1);
            lift(bag, place);
        }

        int giveBreath(int man, int bag) {
            if (!isMan(man) || !isBag(bag)) {
                return UNKNOWN;
            }
            if (hasFallen(man) || ofMan(SUNDAYS, man) == 0) {
                return LATE;
            }
            if (breathsIn(bag) >= MOST_BREATHS) {
                return FULL;
            }
            addTo(SUNDAYS + man, -1);
            lay(man, bag);
            return breathsIn(bag);
        }

        int playBreaths(int bag, int n) {
            if (!isBag(bag)) {
                return UNKNOWN;
            }
            if (n < 1 || n > MOST_BREATHS) {
                return BAD;
            }
            if (breathsIn(bag) < n) {
                return LATE;
            }
            for (int i = 0; i < n; i++) {
                lose(bag, placePlayed(bag, 0));
            }
            return breathsIn(bag);
        }

        int takeBack(int man, int bag) {
            if (!isMan(man) || !isBag(bag)) {
                return UNKNOWN;
            }
            if (hasFallen(man) || kindOfBag(bag) == SEALED) {
                return LATE;
            }
            for (int k = 0; k < breathsIn(bag); k++) {
                int place = placePlayed(bag, k);
                if (owner(bag, place) == man) {
                    lift(bag, place);
                    setCell(SUNDAYS + man, Math.min(MOST_SUNDAYS, ofMan(SUNDAYS, man) + 1));
                    return ofMan(SUNDAYS, man);
                }
            }
            return LATE;
        }

        int cutOpen(int bag) {
            if (!isBag(bag)) {
                return UNKNOWN;
            }
            int many = breathsIn(bag);
            if (many == 0) {
                return LATE;
            }
            for (int i = 0; i < many; i++) {
                lose(bag, 0);
            }
            return many;
        }

        int loseMan(int man) {
            if (!isMan(man)) {
                return UNKNOWN;
            }
            if (hasFallen(man)) {
                return LATE;
            }
            setCell(FALLEN, fallenBits() | 1 << man);
            return left();
        }

        int passDay() {
            int leaked = 0;
            for (int bag = 0; bag < bags; bag++) {
                if (kindOfBag(bag) == LEAKY && breathsIn(bag) > 0) {
                    lose(bag, 0);
                    leaked++;
                }
            }
            if (today() % 7 == 6) {
                passSunday();
            }
            addTo(DAY, 1);
            return leaked;
        }

        private void passSunday() {
            for (int man = 0; man < men; man++) {
                if (hasFallen(man)) {
                    continue;
                }
                int kind = kindOfMan(man);
                if (ofMan(SUNDAYS, man) > (kind == MISER ? 1 : 0)) {
                    addTo(SUNDAYS + man, -1);
                } else {
                    addTo(GRIEVED + man, kind == PIPER ? 0 : kind == DRUMMER ? 2 : 1);
                }
            }
        }

        /** Does what three figures tell, if it can be; the last kind is no doing but a claim that is so or not. */
        boolean canDo(int doing, int first, int second) {
            switch (doing) {
                case 0: return first == 0 && second == 0 && passDay() >= 0;
                case 1: return giveBreath(first, second) >= 0;
                case 2: return playBreaths(first, second) >= 0;
                case 3: return takeBack(first, second) >= 0;
                case 4: return first == 0 && cutOpen(second) >= 0;
                case 5: return first == 0 && loseMan(second) >= 0;
                case 6: return isMan(first) && ofMan(SUNDAYS, first) >= second;
                default: return false;
            }
        }
    }

    /** What was ahead of each of the last acts: a ring, so that the first is forgotten without moving the rest. */
    private static final class Past {
        private static final int MOST = 14;

        private final int[] rows = new int[MOST * Camp.CELLS];
        private int next = 0;
        private int count = 0;

        void clear() {
            next = 0;
            count = 0;
        }

        void remember(Camp before) {
            before.copyTo(rows, next);
            next = next + 1 >= MOST ? 0 : next + 1;
            count = Math.min(MOST, count + 1);
        }

        int goBack(Camp camp) {
            next = next <= 0 ? MOST - 1 : next - 1;
            count = Math.max(0, count - 1);
            camp.copyFrom(rows, next);
            return count;
        }
    }

    /** What is kept; kinds are not, for they last as long as what is kept does. */
    private static final class Slots {
        private static final int MOST = 2;

        private final int[] rows = new int[MOST * Camp.CELLS];
        private int keptBits = 0;

        void clear() {
            keptBits = 0;
        }

        boolean isSlot(int slot) {
            return slot >= 0 && slot < MOST;
        }

        boolean isKept(int slot) {
            return (keptBits >> slot & 1) == 1;
        }

        void store(int slot, Camp camp) {
            camp.copyTo(rows, slot);
            keptBits |= 1 << slot;
        }

        void fetch(int slot, Camp camp) {
            camp.copyFrom(rows, slot);
        }
    }

    /** What is felt of a bag whose kind and age nobody knows. */
    private static final class Felt {
        private static final int MOST = 6;

        private final int[] men = new int[MOST];
        private final int[] bags = new int[MOST];
        private final int[] lengths = new int[MOST];
        private final int[] played = new int[MOST];
        private int count = 0;

        int add(int man, int bag, int n, int wasPlayed) {
            if (count < 0 || count >= MOST) {
                return FULL;
            }
            men[count] = man;
            bags[count] = bag;
            lengths[count] = n;
            played[count] = wasPlayed;
            count++;
            return count;
        }

        int clear() {
            int was = count;
            count = 0;
            return was;
        }

        boolean fits(Camp camp, int kind, int days) {
            int gone = kind == LEAKY ? days : 0;
            for (int i = 0; i < count && i < MOST; i++) {
                // A regiment made anew may lack them; then nothing is told by it.
                if (!camp.isMan(men[i]) || !camp.isBag(bags[i])) {
                    continue;
                }
                int bits = camp.playedBitsAs(bags[i], lengths[i], kind, gone);
                if ((bits >> men[i] & 1) != played[i]) {
                    return false;
                }
            }
            return true;
        }
    }

    /** What is reckoned over all ways, orders or chances. */
    private static final class Sums {
        private static final int[] FACTORIALS = {1, 1, 2, 6, 24, 120};
        // Euclid needs fewer than 64 steps for any two ints.
        private static final int MOST_STEPS = 64;

        private Sums() {
        }

        /** The way has a figure for each of three bags, those too that there are not, so that it is read alike for all. */
        static int bestWay(Camp camp, int n) {
            int best = NONE;
            int fewest = MOST_MEN + 1;
            for (int first = 0; first <= camp.breathsIn(0); first++) {
                for (int second = 0; second <= camp.breathsIn(1); second++) {
                    int third = n - first - second;
                    if (third < 0 || third > camp.breathsIn(2)) {
                        continue;
                    }
                    int way = 100 * first + 10 * second + third;
                    int losers = losersBy(camp, way);
                    if (losers < fewest) {
                        fewest = losers;
                        best = way;
                    }
                }
            }
            return best;
        }

        static int losersBy(Camp camp, int way) {
            int bits = camp.playedBits(0, way / 100) | camp.playedBits(1, way / 10 % 10) | camp.playedBits(2, way % 10);
            return Integer.bitCount(bits);
        }

        /** The figures of bags that there are not stand last and are 0. */
        static int figuresOf(Camp camp, int way) {
            int figures = way;
            for (int bag = camp.bags; bag < MOST_BAGS; bag++) {
                figures /= 10;
            }
            return figures;
        }

        static int shareOf(Camp camp, int man, boolean upper) {
            int men = camp.men;
            int own = camp.breathsOf(man);
            long above = 0;
            for (int come = 0; come < 1 << men; come++) {
                if ((come >> man & 1) == 1) {
                    continue;
                }
                int theirs = camp.breathsOfThese(come);
                int more = (theirs + own) / WHOLE_MARCH - theirs / WHOLE_MARCH;
                int ahead = Integer.bitCount(come);
                above += (long) more * factorial(ahead) * factorial(men - 1 - ahead);
            }
            return told(above, factorial(men), upper);
        }

        private static int factorial(int n) {
            return n >= 0 && n < FACTORIALS.length ? FACTORIALS[n] : 1;
        }

        static int chanceOfLeft(Camp camp, int m, int x, boolean upper) {
            int before = camp.fallenBits();
            long above = 0;
            long below = 1;
            for (int man = 0; man < camp.men; man++) {
                below *= camp.hasFallen(man) ? 1 : 10;
            }
            for (int after = 0; after < 1 << camp.men; after++) {
                if ((after & before) == before && camp.breathsOfThese(after) >= m) {
                    above += weight(camp, after, x);
                }
            }
            return told(above, below, upper);
        }

        /** In how many of the tenths multiplied just these are the fallen. */
        private static long weight(Camp camp, int after, int x) {
            long weight = 1;
            for (int man = 0; man < camp.men; man++) {
                if (!camp.hasFallen(man)) {
                    weight *= (after >> man & 1) == 1 ? x : 10 - x;
                }
            }
            return weight;
        }

        private static int told(long above, long below, boolean upper) {
            long whole = below;
            long rest = above;
            for (int i = 0; i < MOST_STEPS && rest != 0; i++) {
                long next = whole % rest;
                whole = rest;
                rest = next;
            }
            long figure = upper ? above : below;
            return (int) (whole == 0 ? figure : figure / whole);
        }
    }
}
