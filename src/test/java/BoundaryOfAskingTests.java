/** Sentences of the document that name a boundary of what is asked of days to come, marches, doings and shares. */
public final class BoundaryOfAskingTests {
    private static final String NINE = Script.times(9, "P00"), EIGHT = Script.times(8, "P00");

    public static void main(String[] args) {
        howManyDays();
        laterByKind();
        laterRefusals();
        holds();
        nth();
        waits();
        routeOfHowMany();
        routeFewestMen();
        routeLeastFigures();
        judgeHowMany();
        judgeDays();
        judgePuts();
        judgeMarches();
        judgeClaims();
        judgeSlitsAndFalls();
        judgeSundays();
        judgeWhatIsNoDoing();
        judgeTheFirst();
        shareOfMarches();
        shareInOrders();
        shareRefusals();
        Script.end("BoundaryOfAskingTests");
    }

    private static void howManyDays() {
        Script.sentence("IN n DAYS (0 .. 40): SUNDAYS of a MAN");
        Script.on("BM90", "later(0, -1, 0) = BAD; later(0, 0, 0) = 9; later(0, 6, 0) = 9; later(0, 7, 0) = 8",
            "later(0, 13, 0) = 8",
            "later(0, 14, 0) = 7; later(0, 40, 0) = 4; later(0, 41, 0) = BAD; later(0, LOW, 0) = BAD; later(0, HIGH, 0) = BAD");
        // From the third day on the fortieth day to come is a Sunday.
        Script.on("BM90", "2* day(); later(0, 4, 0) = 9; later(0, 5, 0) = 8; later(0, 39, 0) = 4; later(0, 40, 0) = 3");
        Script.on("BM90", "6* day(); later(0, 0, 0) = 9; later(0, 1, 0) = 8; day() = 0; later(0, 0, 0) = 8; later(0, 6, 0) = 8");
        Script.sentence("how much he GRIEVED");
        Script.on("BM00", "7* day(); later(0, 0, 1) = 1; later(0, 6, 1) = 1; later(0, 7, 1) = 2; later(0, 40, 1) = 6",
            "man(0, 2) = 1");
    }

    private static void laterByKind() {
        Script.sentence("IN n DAYS: SUNDAYS (what = 0), how much he GRIEVED (1).");
        Script.on("BM20M21M22M23M20", "fall(4) = 0; later(0, 14, 0) = 0; later(0, 14, 1) = 0; later(0, 21, 1) = 1",
            "later(1, 7, 0) = 1; later(1, 14, 0) = 1; later(1, 14, 1) = 1; later(1, 21, 1) = 2; later(2, 14, 1) = 0",
            "later(2, 21, 1) = 2",
            "later(3, 21, 0) = 0; later(3, 40, 1) = 0; later(4, 40, 0) = 2; later(4, 40, 1) = 0");
    }

    private static void laterRefusals() {
        Script.sentence("UNKNOWN; BAD: n, what.");
        Script.on("BM20", "later(0, 0, -1) = BAD; later(0, 0, 2) = BAD; later(0, 0, 0) = 2; later(0, 0, 1) = 0",
            "later(0, 41, 2) = BAD",
            "later(1, 0, 0) = UNKNOWN; later(-1, 0, 0) = UNKNOWN; later(1, 41, 0) = UNKNOWN; later(1, 0, 2) = UNKNOWN",
            "later(LOW, -1, -1) = UNKNOWN; later(HIGH, 0, 0) = UNKNOWN; later(0, 0, LOW) = BAD; later(0, 0, HIGH) = BAD");
    }

    private static void holds() {
        Script.sentence("IN n DAYS: how many are in it. UNKNOWN; BAD: n.");
        Script.on("BG2G0M00" + NINE + "P01", "holds(0, -1) = BAD; holds(0, 0) = 9; holds(0, 1) = 8; holds(0, 8) = 1",
            "holds(0, 9) = 0",
            "holds(0, 10) = 0; holds(0, 40) = 0; holds(0, 41) = BAD; holds(0, LOW) = BAD; holds(0, HIGH) = BAD; holds(1, 40) = 1",
            "holds(2, 0) = UNKNOWN; holds(-1, 0) = UNKNOWN; holds(2, 41) = UNKNOWN; holds(-1, -1) = UNKNOWN",
            "holds(HIGH, 0) = UNKNOWN");
        Script.on("BG1G3M00P00P01", "holds(0, 40) = 1; holds(1, 40) = 1; holds(1, 41) = BAD");
        Script.on("BG2", "holds(0, 0) = 0; holds(0, 1) = 0");
    }

    private static void nth() {
        Script.sentence("NTH of a BAG for k (0 .. 8): whose BREATH is played when k were played ahead of it; NONE.");
        for (int kind = 0; kind <= 3; kind++) {
            int first = kind == 1 ? 0 : 1;
            Script.on("BG" + kind + "G0M00M00" + EIGHT + "P10", "nth(0, -1) = BAD; nth(0, 0) = " + first + "; nth(0, 1) = 0",
                "nth(0, 7) = 0",
                "nth(0, 8) = " + (1 - first) + "; nth(0, 9) = BAD; nth(1, 0) = NONE; nth(1, 8) = NONE; nth(1, 9) = BAD",
                "nth(1, -1) = BAD");
            Script.on("BG" + kind + "M00M00P00P10", "nth(0, 0) = " + first + "; nth(0, 1) = " + (1 - first) + "; nth(0, 2) = NONE; nth(0, 8) = NONE",
                "march(0, 1) = 1; nth(0, 0) = " + (1 - first) + "; nth(0, 1) = NONE; march(0, 1) = 0; nth(0, 0) = NONE");
        }
        Script.sentence("NTH; NONE. UNKNOWN; BAD: k.");
        Script.on("BG0M00P00", "nth(1, 0) = UNKNOWN; nth(-1, 0) = UNKNOWN; nth(1, 9) = UNKNOWN; nth(1, -1) = UNKNOWN",
            "nth(LOW, 0) = UNKNOWN",
            "nth(HIGH, 0) = UNKNOWN; nth(0, LOW) = BAD; nth(0, HIGH) = BAD; nth(0, 0) = 0");
    }

    private static void waits() {
        Script.sentence("WAITS for a MAN and a BAG: how many must be played till all of his are (0: he has none there).");
        Script.on("BG0G1G3M00M00M00P10" + EIGHT + "P11P01P02", "waits(0, 0) = 8; waits(1, 0) = 9; waits(2, 0) = 0",
            "waits(1, 1) = 1; waits(0, 1) = 2; waits(0, 2) = 1; waits(1, 2) = 0; march(0, 1) = 8; waits(0, 0) = 7",
            "waits(1, 0) = 8");
        Script.on("BG0G0M00M00P00P10P00", "waits(0, 0) = 3; waits(1, 0) = 2; waits(0, 1) = 0; march(0, 2) = 1",
            "waits(1, 0) = 0; waits(0, 0) = 1");
        Script.on("BG1M00M00P00P10P00", "waits(0, 0) = 3; waits(1, 0) = 2; march(0, 1) = 2; waits(0, 0) = 2; waits(1, 0) = 1");
        Script.sentence("WAITS. UNKNOWN: man, bag.");
        Script.on("BG0M00P00", "waits(1, 0) = UNKNOWN; waits(-1, 0) = UNKNOWN; waits(0, 1) = UNKNOWN; waits(0, -1) = UNKNOWN",
            "waits(1, 1) = UNKNOWN; waits(HIGH, LOW) = UNKNOWN; waits(0, 0) = 1; fall(0) = 1; waits(0, 0) = 1");
    }

    private static void routeOfHowMany() {
        Script.sentence("ROUTE for n BREATHS (1 .. 20)");
        String filled = "9* put(0, 0); 9* put(1, 1); 9* put(2, 2)";
        Script.on("BG0G0G0M90M90M90", filled, "route(0, 0) = BAD; route(1, 0) = 1; route(1, 1) = 1; route(9, 0) = 1",
            "route(9, 1) = 9",
            "route(10, 0) = 2; route(10, 1) = 19; route(18, 0) = 2; route(18, 1) = 99; route(19, 0) = 3; route(19, 1) = 199",
            "route(20, 0) = 3; route(20, 1) = 299; route(21, 0) = BAD; route(21, 1) = BAD");
        Script.sentence("NONE: there are not so many.");
        Script.on("BG0G0M00P00P00P01", "route(3, 0) = 1; route(3, 1) = 21; route(4, 0) = NONE; route(4, 1) = NONE",
            "route(20, 0) = NONE",
            "march(0, 1) = 1; route(2, 1) = 11; route(3, 1) = NONE; slit(0) = 1; slit(1) = 1; route(1, 0) = NONE",
            "route(1, 1) = NONE");
        Script.on("BG0G0M90" + NINE + Script.times(8, "P01"), "route(17, 1) = 98; route(18, 1) = NONE; put(0, 1) = 9",
            "route(18, 1) = 99; route(19, 0) = NONE");
        Script.on("B", "route(1, 0) = NONE; route(1, 1) = NONE");
        Script.sentence("ROUTE: how few (what = 0), the way (1); NONE. BAD: n, what.");
        Script.on("BG0M00P00", "route(1, -1) = BAD; route(1, 0) = 1; route(1, 1) = 1; route(1, 2) = BAD; route(2, 2) = BAD",
            "route(2, -1) = BAD",
            "route(-1, 0) = BAD; route(LOW, 0) = BAD; route(HIGH, 1) = BAD; route(1, LOW) = BAD; route(1, HIGH) = BAD",
            "route(0, 2) = BAD");
    }

    private static void routeFewestMen() {
        Script.sentence("that by which fewest MEN lose any");
        // Two of one man lie behind another's in the second bag: both from the first bag are his alone.
        Script.on("BG0G0M00M00P00P00P01P11", "route(2, 0) = 1; route(2, 1) = 20; route(3, 0) = 2; route(3, 1) = 12",
            "route(1, 1) = 1");
        Script.on("BG0G1M00M00P00P00P01P11", "route(2, 0) = 1; route(2, 1) = 11; route(3, 0) = 1; route(3, 1) = 21",
            "route(4, 0) = 2");
        // A man who loses two is one man.
        Script.on("BG0G0M00P00P00P01P01", "route(4, 0) = 1; route(4, 1) = 22");
        Script.on("BG0M00M00M00M00M00P00P10P20P30P40", "route(1, 0) = 1; route(4, 0) = 4; route(5, 0) = 5; route(5, 1) = 5",
            "route(6, 0) = NONE");
        // Men who fell lose like others.
        Script.on("BG0G0M00M00P00P01P10", "route(1, 1) = 1; fall(0) = 2; fall(1) = 3; route(3, 0) = 2; route(1, 0) = 1",
            "route(1, 1) = 1");
    }

    private static void routeLeastFigures() {
        Script.sentence("of like ones the least (figures, BAG by BAG)");
        Script.on("BG0G0G0M00P00P01P02", "route(1, 1) = 1; route(2, 1) = 11; route(3, 1) = 111");
        Script.on("BG0G0M00P00P01", "route(1, 1) = 1; route(2, 1) = 11");
        Script.on("BG0G0G0M00P00P00P01", "route(1, 1) = 10; route(2, 1) = 110; route(3, 1) = 210");
        Script.on("BG0G0G0M00M00P00P11", "route(1, 1) = 10; route(2, 1) = 110; slit(1) = 1; route(1, 1) = 100");
        Script.on("BG0M00" + NINE, "route(1, 1) = 1; route(9, 1) = 9; route(10, 1) = NONE");
    }

    private static void judgeHowMany() {
        Script.sentence("JUDGED: n doings (1 .. 4), told as three figures each");
        Script.on("BG0M10", "judge(0, 0) = BAD; judge(1, 0) = NONE; judge(4, 0) = NONE; judge(5, 0) = BAD",
            "judge(-1, 0) = BAD; judge(LOW, 0) = BAD; judge(HIGH, 0) = BAD");
        Script.sentence("JUDGED; NONE. BAD: n, row (0 or more, 3 n figures at most).");
        Script.on("BG0M10", "judge(1, -1) = BAD; judge(4, -1) = BAD; judge(1, -9223372036854775808) = BAD",
            "judge(4, 9223372036854775807) = BAD",
            "judge(1, 999) = 0; judge(1, 1000) = BAD; judge(2, 100000) = NONE; judge(2, 999999) = 0; judge(2, 1000000) = BAD",
            "judge(3, 100000000) = NONE; judge(3, 999999999) = 0; judge(3, 1000000000) = BAD; judge(4, 100000000000) = NONE",
            "judge(4, 999999999999) = 0; judge(4, 1000000000000) = BAD; judge(0, -1) = BAD; judge(5, 1000000000000000) = BAD");
        // A row that is a doing by its lowest 32 bits alone: 4294967396 is 100 there.
        Script.on("BG0M10", "judge(1, 100) = NONE; judge(1, 4294967396) = BAD; judge(4, 100000000100) = 3");
    }

    private static void judgeDays() {
        Script.sentence("0, 0, 0: A DAY");
        Script.on("BG2M10P00P00", "judge(1, 0) = NONE; judge(1, 1) = 0; judge(1, 10) = 0; judge(1, 11) = 0; judge(1, 99) = 0",
            "judge(2, 201) = NONE; judge(2, 202) = 1; judge(3, 201) = 2; judge(3, 100202) = NONE; judge(3, 100203) = 2");
        Script.on("BM10M21", "5* day(); judge(2, 601) = NONE; day() = 0; judge(2, 601) = 1; judge(1, 601) = NONE",
            "judge(2, 611) = NONE",
            "judge(2, 612) = 1; judge(2, 600) = NONE");
    }

    private static void judgePuts() {
        Script.sentence("1, a MAN, a BAG: PUT");
        Script.on("BG0G0M10M00M90" + EIGHT, "judge(1, 100) = NONE; judge(2, 100100) = 1; judge(1, 110) = 0",
            "judge(1, 130) = 0; judge(1, 102) = 0",
            "judge(2, 120120) = 1; judge(3, 120121120) = 2; judge(4, 120121121201) = NONE; judge(1, 199) = 0; fall(2) = 0",
            "judge(1, 121) = 0");
    }

    private static void judgeMarches() {
        Script.sentence("2, a BAG, n: MARCHED (1 .. 9)");
        Script.on("BG0G0M10" + NINE, "judge(1, 200) = 0; judge(1, 201) = NONE; judge(1, 209) = NONE; judge(2, 209201) = 1",
            "judge(1, 211) = 0",
            "judge(1, 221) = 0; judge(2, 208201) = NONE; judge(2, 208202) = 1; judge(2, 101211) = NONE; judge(2, 101212) = 1");
    }

    private static void judgeClaims() {
        Script.sentence("3, a MAN, a BAG: CLAIMED");
        Script.on("BG0G3M00M00P00P00P10P01", "judge(1, 300) = NONE; judge(2, 300300) = NONE; judge(3, 300300300) = 2",
            "judge(1, 301) = 0; judge(1, 311) = 0",
            "judge(1, 320) = 0; judge(1, 302) = 0; judge(2, 310100) = 1; judge(2, 310111) = NONE; fall(1) = 1",
            "judge(1, 310) = 0");
    }

    private static void judgeSlitsAndFalls() {
        Script.sentence("4, 0, a BAG: SLIT");
        Script.on("BG0G0M10P00", "judge(1, 400) = NONE; judge(2, 400400) = 1; judge(1, 401) = 0; judge(1, 402) = 0",
            "judge(1, 410) = 0",
            "judge(2, 101401) = NONE; judge(3, 101401401) = 2; judge(2, 400201) = 1");
        Script.sentence("5, 0, a MAN: FELL");
        Script.on("BG0M10M10P00", "judge(1, 500) = NONE; judge(1, 501) = NONE; judge(1, 502) = 0; judge(1, 510) = 0",
            "judge(2, 500500) = 1",
            "judge(2, 500501) = NONE; judge(2, 500100) = 1; judge(2, 500300) = 1; judge(2, 501100) = NONE; fall(0) = 1",
            "judge(1, 500) = 0");
    }

    private static void judgeSundays() {
        Script.sentence("6, a MAN, v: he has v SUNDAYS or more");
        Script.on("BG0M00M90M80P10", "judge(1, 600) = NONE; judge(1, 601) = 0; judge(1, 619) = NONE; judge(1, 628) = NONE",
            "judge(1, 629) = 0",
            "judge(1, 630) = 0; judge(2, 310619) = NONE; judge(2, 120627) = NONE; judge(2, 120628) = 1; judge(2, 502628) = NONE");
    }

    private static void judgeWhatIsNoDoing() {
        Script.sentence("the place of the first that can not be (or is not so)");
        Script.on("BG0M90P00", "judge(1, 700) = 0; judge(1, 800) = 0; judge(1, 900) = 0; judge(2, 700) = 1",
            "judge(1, 600) = NONE; judge(1, 999) = 0");
    }

    private static void judgeTheFirst() {
        Script.sentence("the place of the first that can not be (or is not so); NONE: none.");
        Script.on("BG0M20P00", "judge(4, 100100100100) = 2; judge(4, 100100300100) = NONE; judge(4, 100100300601) = NONE",
            "judge(4, 100100300602) = 3",
            "judge(4, 700700700700) = 0; judge(4, 100700700700) = 1; judge(4, 100100700700) = 2; judge(4, 100100203700) = 3",
            "judge(4, 100100203601) = 3",
            "judge(4, 100100203600) = NONE; about(3) = 1; about(9) = 0; man(0, 1) = 2");
    }

    private static void share(String text, int man, int above, int below) {
        Script.on(text, "share(" + man + ", true) = " + above, "share(" + man + ", false) = " + below);
    }

    private static void shareOfMarches() {
        Script.sentence("whole MARCHES of 4 BREATHS, of all BAGS together");
        share("BG0M00", 0, 0, 1);
        share("BG0M00P00P00P00", 0, 0, 1);
        share("BG0M00P00P00P00P00", 0, 1, 1);
        share("BG0M00" + Script.times(7, "P00"), 0, 1, 1);
        share("BG0M00" + EIGHT, 0, 2, 1);
        share("BG0G1G3M00P00P01P02", 0, 0, 1);
        share("BG0G1G3M00P00P01P02P00", 0, 1, 1);
        Script.on("BG0G0M90" + NINE + Script.times(8, "P01"), "share(0, true) = 4; share(0, false) = 1; march(0, 1) = 8",
            "share(0, true) = 4",
            "march(0, 1) = 7; share(0, true) = 3");
    }

    private static void shareInOrders() {
        Script.sentence("SHARE of a MAN: if MEN come one by one, in each order as likely");
        share("BG0M00M00P00P00P00P10", 0, 1, 2);
        share("BG0M00M00P00P00P00P10", 1, 1, 2);
        share("BG0M00M00P00P00P00P00P10", 0, 1, 1);
        share("BG0M00M00P00P00P00P00P10", 1, 0, 1);
        share("BG0M00M00M00P00P00P10P10P20P20", 2, 1, 3);
        // 3, 1, 1, 1, 1: the first one makes the march unless he comes first or last.
        String rich = "BG0M00M00M00M00M00P00P00P00P10P20P30P40";
        share(rich, 0, 3, 5);
        share(rich, 4, 1, 10);
        // 5, 1, 1, 1, 1: the first one makes both marches if he comes fourth, and else one.
        String richer = "BG0G0M00M00M00M00M00" + Script.times(5, "P00") + "P11P21P31P41";
        share(richer, 0, 6, 5);
        share(richer, 1, 1, 5);
        // 1 each of four, and of five: who comes fourth makes it.
        share("BG0M00M00M00M00P00P10P20P30", 3, 1, 4);
        share("BG0M00M00M00M00M00P00P10P20P30P40", 3, 1, 5);
        share("BG0M00M00M00M00P00P00P10P20P30", 0, 1, 2);
        share("BG0M00M00M00M00P00P00P10P20P30", 1, 1, 6);
        // 3, 2, 2: two marches can not be; the first one makes it unless he comes first, or last behind the others.
        share("BG0M00M00M00P00P00P00P10P10P20P20", 0, 1, 3);
        // 5, 3: the second march is made by whoever comes last; the one of five has one by himself.
        share("BG0M00M00P00P00P00P00P00P10P10P10", 0, 3, 2);
        share("BG0M00M00P00P00P00P00P00P10P10P10", 1, 1, 2);
        Script.on("BG0M00M00P00P00P00P10", "fall(0) = 3; share(0, true) = 1; share(0, false) = 2; share(1, false) = 2");
    }

    private static void shareRefusals() {
        Script.sentence("SHARE. UNKNOWN.");
        Script.on("BG0M00P00P00P00P00", "share(0, true) = 1; share(1, true) = UNKNOWN; share(-1, false) = UNKNOWN",
            "share(LOW, true) = UNKNOWN; share(HIGH, false) = UNKNOWN");
        Script.on("BM00M00M00M00M00", "share(4, true) = 0; share(4, false) = 1; share(5, false) = UNKNOWN");
    }
}
