import java.math.BigInteger;

/** Sentences of the document that name a boundary of what is FELT, of RESTS, BATTLE, THE SEED and YEARS. */
public final class BoundaryOfChancesTests {
    private static final String NINE = Script.times(9, "P00"), EIGHT = Script.times(8, "P00");
    private static final BigInteger TIMES = new BigInteger("6364136223846793005"), MORE = new BigInteger("1442695040888963407");
    private static final BigInteger WRAP = BigInteger.ONE.shiftLeft(64);

    public static void main(String[] args) {
        sixFelt();
        feelRefusals();
        unfeel();
        daysOlder();
        marchesFelt();
        kindsFelt();
        whichRefusals();
        notAnyMore();
        restsByBreaths();
        restsIfHeCan();
        restsRefusals();
        battleTenths();
        battleBreaths();
        battleFallen();
        battleRefusals();
        seed();
        yearsHowMany();
        yearsPuts();
        yearsClaims();
        yearsMarches();
        yearsDays();
        yearsTogether();
        wrapping();
        Script.end("BoundaryOfChancesTests");
    }

    private static void sixFelt() {
        Script.sentence("6 such at most, none at first");
        Script.on("BG0M00P00", "about(10) = 0; which(0) = 40; feel(0, 0, 1, 1) = 1; feel(0, 0, 1, 1) = 2; feel(0, 0, 1, 1) = 3",
            "feel(0, 0, 1, 1) = 4; feel(0, 0, 1, 1) = 5; feel(0, 0, 1, 1) = 6; feel(0, 0, 1, 1) = FULL; about(10) = 6",
            "which(0) = 31");
        // The sixth is looked at, a seventh is not.
        Script.on("BG0M00M00P00", "5* feel(0, 0, 1, 1); which(0) = 31; feel(1, 0, 1, 1) = 6; which(0) = 0; unfeel() = 6",
            "which(0) = 40");
        Script.on("BG0M00M00P00", "6* feel(0, 0, 1, 1); feel(1, 0, 1, 1) = FULL; which(0) = 31; unfeel() = 6; about(10) = 0");
    }

    private static void feelRefusals() {
        Script.sentence("FELT: how many there are. UNKNOWN: man, bag; BAD: n, played (0, 1); FULL: 6.");
        Script.on("BG0M00P00", "feel(-1, 0, 1, 1) = UNKNOWN; feel(1, 0, 1, 1) = UNKNOWN; feel(0, -1, 1, 1) = UNKNOWN",
            "feel(0, 1, 1, 1) = UNKNOWN",
            "feel(LOW, 0, 1, 1) = UNKNOWN; feel(0, HIGH, 1, 1) = UNKNOWN; feel(1, 0, 0, 2) = UNKNOWN",
            "feel(0, 1, 10, -1) = UNKNOWN",
            "feel(0, 0, 0, 1) = BAD; feel(0, 0, 10, 1) = BAD; feel(0, 0, -1, 1) = BAD; feel(0, 0, LOW, 1) = BAD",
            "feel(0, 0, HIGH, 0) = BAD",
            "feel(0, 0, 1, -1) = BAD; feel(0, 0, 1, 2) = BAD; feel(0, 0, 1, LOW) = BAD; feel(0, 0, 1, HIGH) = BAD; about(10) = 0",
            "feel(0, 0, 1, 0) = 1; feel(0, 0, 9, 1) = 2; feel(0, 0, 9, 0) = 3; feel(0, 0, 1, 1) = 4; feel(0, 0, 5, 1) = 5",
            "feel(0, 0, 5, 0) = 6",
            "feel(0, 0, 1, 1) = FULL; feel(0, 0, 0, 1) = BAD; feel(0, 0, 1, 2) = BAD; feel(1, 0, 1, 1) = UNKNOWN",
            "feel(0, 1, 1, 1) = UNKNOWN");
        // Who fell has breaths that are played like others, and an empty bag can be felt.
        Script.on("BG0G0M00P00", "fall(0) = 1; feel(0, 0, 1, 1) = 1; feel(0, 1, 1, 0) = 2; which(0) = 31");
    }

    private static void unfeel() {
        Script.sentence("Nothing is FELT: how much there was.");
        Script.onNew("unfeel() = 0; which(0) = 40");
        Script.on("BG0M00P00", "unfeel() = 0; feel(0, 0, 1, 0) = 1; unfeel() = 1; unfeel() = 0; which(0) = 40",
            "feel(0, 0, 1, 1) = 1; about(9) = 0");
    }

    private static void daysOlder() {
        Script.sentence("was d DAYS (0 .. 9) older, nobody knows how many");
        // Man 1's breath is on top of eight: only a leaky bag that is 9 days older has lost it.
        Script.on("BG0M00M00" + EIGHT + "P10", "feel(1, 0, 9, 0) = 1; which(0) = 1; which(1) = 29");
        Script.on("BG0M00M00" + EIGHT + "P10", "feel(1, 0, 9, 1) = 1; which(0) = 39; which(1) = 0");
        // Man 1's is the lowest: a leaky bag has lost it unless it is no day older.
        Script.on("BG0M00M00P10" + EIGHT, "feel(1, 0, 9, 0) = 1; which(0) = 9; which(1) = 21");
        Script.on("BG0M00M00P10" + EIGHT, "feel(1, 0, 9, 1) = 1; which(0) = 31; which(1) = 0; feel(0, 0, 9, 0) = 2",
            "which(0) = 0; which(1) = NONE");
        Script.on("BG0M00M00P10" + EIGHT, "feel(1, 0, 9, 0) = 1; feel(0, 0, 9, 1) = 2; which(0) = 8; which(1) = 21");
        // The real kind and the day are of no weight.
        for (int kind = 0; kind <= 3; kind++) {
            Script.on("BG" + kind + "M00M00P00P10", "feel(0, 0, 1, 1) = 1; which(0) = 10; which(1) = 10");
        }
        Script.on("BG0M00P00", "7* day(); feel(0, 0, 1, 1) = 1; which(0) = 31");
    }

    private static void marchesFelt() {
        Script.sentence("in a MARCH of n (1 .. 9), or all there were, if fewer, a BREATH of a MAN was played (1), or none of his (0)");
        // Kind by kind: plain 10, deep 10, leaky those that are so, sealed 10.
        Script.on("BG0M00M00P10" + EIGHT, "feel(1, 0, 8, 1) = 1; which(0) = 10; which(1) = 10");
        Script.on("BG0M00M00P10" + EIGHT, "feel(1, 0, 9, 1) = 1; which(0) = 31");
        Script.on("BG0M00M00P10" + EIGHT, "feel(1, 0, 1, 1) = 1; which(0) = 10; unfeel() = 1; feel(0, 0, 1, 1) = 1",
            "which(0) = 29");
        Script.on("BG0M00M00P10" + EIGHT, "feel(0, 0, 1, 0) = 1; which(0) = 11; which(1) = 10; feel(1, 0, 1, 0) = 2",
            "which(0) = 1; which(1) = 29");
        Script.on("BG0M00M00P10P00", "feel(1, 0, 9, 1) = 1; which(0) = 31; feel(0, 0, 9, 1) = 2; which(0) = 31",
            "feel(0, 0, 2, 1) = 3; which(0) = 31");
        Script.on("BG0M00M00P10P00", "feel(0, 0, 9, 0) = 1; which(0) = 8; which(1) = 22");
        Script.on("BG0G0M00P01", "feel(0, 0, 9, 1) = 1; which(0) = 0; which(1) = NONE; unfeel() = 1; feel(0, 0, 1, 0) = 1",
            "which(0) = 40");
        Script.sentence("a BAG in which all was as it is in a told one now");
        Script.on("BG0M10M00P10", "feel(1, 0, 1, 1) = 1; which(0) = 31; put(0, 0) = 2; which(0) = 10; which(1) = 10",
            "march(0, 2) = 0; which(0) = 0");
    }

    private static void kindsFelt() {
        Script.sentence("WHICH: KINDS and DAYS by which all that is FELT is so: how many (40 there are); the first one (10 times KIND and DAYS); NONE.");
        Script.on("BG0M00M00M00P00P10P20", "which(0) = 40; which(1) = 0; feel(0, 0, 1, 0) = 1; which(0) = 30; which(1) = 0",
            "feel(0, 0, 3, 0) = 2; which(0) = 9; which(1) = 21; feel(1, 0, 3, 0) = 3; which(0) = 8; which(1) = 22",
            "feel(2, 0, 3, 0) = 4; which(0) = 7; which(1) = 23; feel(2, 0, 1, 1) = 5; which(0) = 0; which(1) = NONE");
        Script.on("BG0M00M00M00P00P10P20", "feel(0, 0, 1, 1) = 1; which(0) = 10; which(1) = 10; feel(2, 0, 1, 1) = 2",
            "which(0) = 0; which(1) = NONE");
        // Of two bags each is felt for itself, but both are of one kind and age.
        Script.on("BG0G0M00M00P00P10P11P01", "feel(0, 0, 1, 1) = 1; feel(1, 1, 1, 1) = 2; which(1) = 10; which(0) = 10",
            "feel(1, 0, 2, 0) = 3; which(0) = 0");
    }

    private static void whichRefusals() {
        Script.sentence("WHICH: how many (what = 0), the first one (1); NONE. BAD.");
        Script.onNew("which(-1) = BAD; which(0) = 40; which(1) = 0; which(2) = BAD; which(LOW) = BAD; which(HIGH) = BAD");
    }

    private static void notAnyMore() {
        Script.sentence("MEN, BAGS that there are not any more are not looked at");
        Script.on("BG0G0M00M00P00P10", "feel(0, 0, 1, 1) = 1; which(0) = 10; feel(1, 0, 1, 0) = 2; which(0) = 10",
            "feel(1, 1, 1, 1) = 3; which(0) = 0",
            "tell(BG0M00P00); regiment() = 111; which(0) = 31; about(10) = 3; tell(BG0M00); regiment() = 110; which(0) = 0",
            "which(1) = NONE",
            "tell(BG0); regiment() = 100; which(0) = 40; tell(BM00); regiment() = 10; which(0) = 40; tell(B)",
            "regiment() = 0; which(1) = 0",
            "about(10) = 3; tell(BG0G0M00M00P00P10P11); regiment() = 223; which(0) = 10; which(1) = 10");
        // Man 1 is there, bag 1 is not; and the other way round.
        Script.on("BG0G0M00M00P00", "feel(1, 1, 1, 1) = 1; which(0) = 0; tell(BG0M00M00P00); regiment() = 121; which(0) = 40",
            "tell(BG0G0M00P00); regiment() = 211; which(0) = 40; feel(0, 0, 1, 1) = 2; which(0) = 31");
    }

    private static void restsByBreaths() {
        Script.sentence("each has 2, if he has one back, and 1 more for each BREATH of his that is in that BAG then, and 3 more, if there are 3 BREATHS or more in it then");
        // By how many there are: what both claim leaves too few to lose by, the last that 3 need, one too many, enough for both.
        rests("BG0M00M00P00P10", 1, 11);
        rests("BG0M00M00P00P10P00", 2, 0);
        rests("BG0M00M00P00P10P00P10", 2, 1);
        rests("BG0M00M00P00P10P00P10P00", 1, 11);
        rests("BG0M00M00M00P00P10P20", 2, 0);
        rests("BG0M00M00M00P00P10P20P20", 2, 1);
        rests("BG0M00M00M00P00P10P20P20P20", 1, 11);
        rests("BG1M00M00P00P10P00P10", 2, 1);
        rests("BG2M00M00P00P10P00P10", 2, 1);
    }

    private static void rests(String text, int many, int first) {
        Script.on(text, "rests(0, 1, 0, 0) = " + many + "; rests(0, 1, 0, 1) = " + first + "; rests(1, 0, 0, 0) = " + many,
            "rests(1, 0, 0, 1) = " + first + "; about(9) = 0");
    }

    private static void restsIfHeCan() {
        Script.sentence("each CLAIMS one (1), if he can, or none (0), the one first");
        // Who can not claim has as much by either choice, so pairs of both of his choices are at rest.
        rests("BG3M00M00P00P10P00P10", 4, 0);
        rests("BG0M00M00", 4, 0);
        Script.on("BG0M00M00P00P00", "rests(0, 1, 0, 0) = 2; rests(0, 1, 0, 1) = 10; rests(1, 0, 0, 0) = 2",
            "rests(1, 0, 0, 1) = 1");
        Script.on("BG0M00M00P00P00P00", "rests(0, 1, 0, 0) = 2; rests(0, 1, 0, 1) = 0; rests(1, 0, 0, 0) = 2",
            "rests(1, 0, 0, 1) = 0");
        Script.on("BG0M00M00P00P00P00P00", "rests(0, 1, 0, 0) = 2; rests(0, 1, 0, 1) = 10; rests(1, 0, 0, 0) = 2",
            "rests(1, 0, 0, 1) = 1");
        Script.on("BG0M00M00P00P10P00P10", "fall(0) = 2; rests(0, 1, 0, 0) = 2; rests(0, 1, 0, 1) = 1",
            "rests(1, 0, 0, 1) = 10; fall(1) = 4; rests(0, 1, 0, 0) = 4");
        // Breaths in other bags are of no weight.
        Script.on("BG0G0M00M00P00P10P01P11P01", "rests(0, 1, 0, 0) = 1; rests(0, 1, 0, 1) = 11; rests(0, 1, 1, 0) = 2",
            "rests(0, 1, 1, 1) = 0");
    }

    private static void restsRefusals() {
        Script.sentence("RESTS: how many (what = 0), the first one (1); NONE. UNKNOWN: both, bag; BAD: both are one, what.");
        Script.on("BG0M00M00P00P10", "rests(-1, 0, 0, 0) = UNKNOWN; rests(2, 0, 0, 0) = UNKNOWN",
            "rests(0, -1, 0, 0) = UNKNOWN; rests(0, 2, 0, 0) = UNKNOWN",
            "rests(0, 1, -1, 0) = UNKNOWN; rests(0, 1, 1, 0) = UNKNOWN; rests(2, 2, 0, 0) = UNKNOWN",
            "rests(0, 0, 1, 0) = UNKNOWN; rests(0, 1, 1, 2) = UNKNOWN",
            "rests(LOW, 1, 0, 0) = UNKNOWN; rests(0, HIGH, 0, 0) = UNKNOWN; rests(0, 1, HIGH, 0) = UNKNOWN",
            "rests(2, 0, 0, 2) = UNKNOWN",
            "rests(0, 0, 0, 0) = BAD; rests(1, 1, 0, 1) = BAD; rests(0, 1, 0, -1) = BAD; rests(0, 1, 0, 2) = BAD",
            "rests(0, 1, 0, LOW) = BAD",
            "rests(0, 1, 0, HIGH) = BAD; rests(0, 1, 0, 0) = 1; rests(0, 1, 0, 1) = 11");
    }

    private static void battle(String text, int m, int x, int above, int below) {
        Script.on(text, "battle(" + m + ", " + x + ", true) = " + above, "battle(" + m + ", " + x + ", false) = " + below);
    }

    private static void battleTenths() {
        Script.sentence("BATTLE: each MAN who has not FALLEN falls by x tenths (0 .. 10), by itself");
        String one = "BG0M00P00";
        battle(one, 1, 0, 0, 1);
        battle(one, 1, 1, 1, 10);
        battle(one, 1, 2, 1, 5);
        battle(one, 1, 5, 1, 2);
        battle(one, 1, 9, 9, 10);
        battle(one, 1, 10, 1, 1);
        String five = "BG0M00M00M00M00M00P00P10P20P30P40";
        battle(five, 5, 1, 1, 100000);
        battle(five, 5, 9, 59049, 100000);
        battle(five, 5, 10, 1, 1);
        battle(five, 1, 1, 40951, 100000);
        battle(five, 1, 0, 0, 1);
        battle(five, 1, 5, 31, 32);
        Script.sentence("FRACTIONS are told above (upper = true), below, in least terms.");
        battle("BG0M00M00P00P10", 2, 5, 1, 4);
        battle("BG0M00M00P00P10", 1, 5, 3, 4);
        battle("BG0M00M00P00P10", 2, 4, 4, 25);
    }

    private static void battleBreaths() {
        Script.sentence("that m (0 .. 27) BREATHS or more are LEFT then: a FRACTION.");
        String filled = "9* put(0, 0); 9* put(1, 1); 9* put(2, 2)";
        Script.on("BG0G0G0M90M90M90", filled, "about(3) = 27; battle(27, 10, true) = 1; battle(27, 10, false) = 1",
            "battle(28, 10, true) = BAD",
            "battle(27, 5, true) = 1; battle(27, 5, false) = 8; battle(19, 5, false) = 8; battle(18, 5, true) = 1",
            "battle(18, 5, false) = 2",
            "battle(10, 5, false) = 2; battle(9, 5, true) = 7; battle(9, 5, false) = 8; battle(1, 5, true) = 7",
            "battle(0, 5, true) = 1; battle(0, 5, false) = 1",
            "battle(27, 1, false) = 1000; battle(-1, 5, true) = BAD; march(0, 1) = 8; battle(27, 10, true) = 0",
            "battle(27, 10, false) = 1; battle(26, 10, true) = 1");
        battle("BG0M00M00P00P00P10", 2, 3, 3, 10);
        battle("BG0M00M00P00P00P10", 3, 3, 9, 100);
        battle("BG0M00M00P00P00P10", 4, 3, 0, 1);
        battle("BM00", 0, 0, 1, 1);
        battle("BM00", 1, 10, 0, 1);
        battle("B", 0, 0, 1, 1);
        battle("B", 1, 10, 0, 1);
    }

    private static void battleFallen() {
        Script.sentence("each MAN who has not FALLEN falls");
        Script.on("BG0M00M00P00P00P10", "fall(0) = 2; battle(2, 0, true) = 1; battle(2, 0, false) = 1",
            "battle(3, 0, true) = 0; battle(3, 3, true) = 3",
            "battle(3, 3, false) = 10; fall(1) = 3; battle(3, 0, true) = 1; battle(3, 0, false) = 1; about(5) = 3; about(9) = 2");
    }

    private static void battleRefusals() {
        Script.sentence("BATTLE. BAD: m, x.");
        Script.on("BG0M00P00", "battle(-1, 0, true) = BAD; battle(28, 0, true) = BAD; battle(0, -1, false) = BAD",
            "battle(0, 11, false) = BAD",
            "battle(LOW, 0, true) = BAD; battle(HIGH, 0, true) = BAD; battle(0, LOW, true) = BAD",
            "battle(0, HIGH, true) = BAD; battle(28, 11, true) = BAD",
            "battle(0, 0, true) = 1; battle(27, 0, true) = 0; battle(0, 10, true) = 1; battle(27, 10, false) = 1");
    }

    private static void seed() {
        Script.sentence("THE SEED is v: what it was.");
        Script.onNew("seed(0) = 0; seed(-1) = 0; seed(9223372036854775807) = -1",
            "seed(-9223372036854775808) = 9223372036854775807",
            "seed(-2) = -9223372036854775808; seed(-3) = -2; seed(-4) = -3; seed(-9) = -4; seed(5) = -9; seed(0) = 5");
        Script.sentence("(THE SEED, a long; 0 at first)");
        Script.onNew("years(1) = 0; seed(0) = 1442695040888963407");
    }

    private static void yearsHowMany() {
        Script.sentence("YEARS by THE SEED: m times (1 .. 30)");
        Script.on("BG0M90", "years(0) = BAD; years(31) = BAD; years(-1) = BAD; years(LOW) = BAD; years(HIGH) = BAD; seed(0) = 0");
        Script.on("BG0M90", "years(1); seed(0) = " + behind(0, 1));
        Script.on("BG0M90", "years(30); seed(0) = " + behind(0, 30));
        Script.on("BG0M90", "years(29); years(1); seed(0) = " + behind(0, 30));
        Script.sentence("(Nothing changes but THE SEED.)");
        Script.on("BG0G2M90P00P01P01", "years(30); years(30); about(2) = 0; about(3) = 3; about(4) = 0; about(7) = 9",
            "about(9) = 0; bag(1, 1) = 2");
    }

    private static long behind(long seed, int steps) {
        BigInteger x = BigInteger.valueOf(seed);
        for (int i = 0; i < steps; i++) {
            x = x.multiply(TIMES).add(MORE).mod(WRAP);
        }
        return x.longValue();
    }

    private static int lotOf(long seed) {
        return BigInteger.valueOf(seed).multiply(TIMES).add(MORE).mod(WRAP).shiftRight(33).mod(BigInteger.valueOf(40)).intValue();
    }

    /** A seed by which the lots are those, one behind another. */
    private static long seedOf(int... lots) {
        for (long seed = 0; seed < 1_000_000; seed++) {
            boolean fits = true;
            for (int i = 0; i < lots.length && fits; i++) {
                fits = lotOf(behind(seed, i)) == lots[i];
            }
            if (fits) {
                return seed;
            }
        }
        throw new IllegalStateException("no such seed");
    }

    /** By one step the regiment's breaths are these; by the lots that are named they are those instead. */
    private static void lots(String text, int all, int instead, int... named) {
        StringBuilder rows = new StringBuilder("about(2) = 0");
        for (int lot = 0; lot < 40; lot++) {
            int want = all;
            for (int each : named) {
                want = each == lot ? instead : want;
            }
            rows.append("; seed(").append(seedOf(lot)).append("); years(1) = ").append(want);
        }
        Script.on(text, rows.toString());
    }

    private static void yearsPuts() {
        Script.sentence("0 .. 14 that by 3 (down) is a MAN who PUT one in the BAG that is left by 3");
        for (int man = 0; man < 5; man++) {
            StringBuilder text = new StringBuilder("BG0G1G3");
            for (int i = 0; i < 5; i++) {
                text.append(i == man ? "M10" : "M00");
            }
            lots(text.toString(), 0, 1, 3 * man, 3 * man + 1, 3 * man + 2);
        }
        lots("BG0G1M90", 0, 1, 0, 1);
        Script.on("BG0G0M90" + EIGHT, "seed(" + seedOf(0, 0, 1) + "); years(1) = 9; years(1) = 9; years(1) = 9");
        Script.on("BG0G0M90" + EIGHT, "seed(" + seedOf(0, 0, 1) + "); years(3) = 28");
    }

    private static void yearsClaims() {
        Script.sentence("15 .. 29 that less 15, by 3 (down) is a MAN who CLAIMED one from the BAG that is left by 3");
        // Bags that are told as plain are marched on too: 30 and the bag.
        for (int man = 0; man < 5; man++) {
            for (int bag = 0; bag < 3; bag++) {
                lots("BG0G0G0M00M00M00M00M00P" + man + bag, 1, 0, 15 + 3 * man + bag, 30 + bag);
            }
        }
    }

    private static void yearsMarches() {
        Script.sentence("30 .. 32 of that less 30 BAG one is MARCHED on, each if it can be");
        lots("BG3G3G3M00P00", 1, 0, 30);
        lots("BG3G3G3M00P01", 1, 0, 31);
        lots("BG3G3G3M00P02", 1, 0, 32);
        lots("BG3G3M00P00P00P01", 3, 2, 30, 31);
    }

    private static void yearsDays() {
        Script.sentence("33 .. 39 A DAY");
        lots("BG2M00M00P00P00", 2, 1, 15, 30, 33, 34, 35, 36, 37, 38, 39);
        lots("BG2G2G2M00M00M00M00M00", 0, 0);
    }

    private static void yearsTogether() {
        Script.sentence("how many BREATHS there are in BAGS, each time, together.");
        Script.on("BG2M00" + NINE, "seed(" + seedOf(33, 39) + "); years(2) = 15; bag(0, 1) = 9");
        Script.on("BG3M00M00P00", "seed(" + seedOf(33, 30) + "); years(2) = 1; seed(" + seedOf(30, 33) + "); years(2) = 0");
        Script.on("BG0M10", "seed(" + seedOf(0, 15) + "); years(2) = 1; seed(" + seedOf(15, 0) + "); years(2) = 1",
            "seed(" + seedOf(0, 0) + "); years(2) = 2");
        Script.on("BG0M10", "seed(" + seedOf(0, 33) + "); years(1) = 1; years(1) = 0");
        // The day goes on as the years do: a man who has a Sunday spends it by the seventh day.
        Script.on("BG0M10", "6* day(); seed(" + seedOf(33, 0) + "); years(2) = 0; undo() = 5; seed(" + seedOf(33, 0) + ")",
            "years(2) = 1");
        Script.on("BG0M10P00", "fall(0) = 1; seed(" + seedOf(0) + "); years(1) = 1; seed(" + seedOf(15) + "); years(1) = 1");
    }

    private static void wrapping() {
        Script.sentence("(64 bits, wrapping); what is left of its upper 31 bits by 40");
        long[] seeds = {0, 1, -1, 5, Long.MIN_VALUE, Long.MAX_VALUE, 0x5DEECE66DL, -1442695040888963407L};
        for (long seed : seeds) {
            Script.on("BG0M90", "seed(" + seed + "); years(1); seed(0) = " + behind(seed, 1), "seed(" + seed + ")",
                "years(30); seed(0) = " + behind(seed, 30));
        }
        // Seeds behind which the number is below 0: its upper bits are told without the sign.
        int found = 0;
        for (long seed = 0; seed < 400; seed++) {
            if (behind(seed, 1) < 0) {
                int lot = lotOf(seed);
                Script.on("BG3M00P00", "seed(" + seed + "); years(1) = " + (lot == 30 ? 0 : 1));
                Script.on("BG2M00P00", "seed(" + seed + "); years(1) = " + (lot == 15 || lot == 30 || lot > 32 ? 0 : 1));
                found++;
            }
        }
        Script.check("such seeds are found", found > 100 ? 1 : 0, 1);
    }
}
