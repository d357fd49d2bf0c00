/** Sentences of the document that name a boundary of an ACT, of A DAY, of what is undone and of what is kept. */
public final class BoundaryOfActsTests {
    private static final String NINE = Script.times(9, "P00"), EIGHT = Script.times(8, "P00");

    public static void main(String[] args) {
        putByWhom();
        putWhere();
        putRefusals();
        marchOfHowMany();
        marchRefusals();
        playedFromWhichEnd();
        claimedWhich();
        claimedFromWhere();
        claimRefusals();
        mostSundays();
        slit();
        fall();
        leakyBags();
        whichDays();
        whoSpends();
        whoGrieves();
        fallenMenOnSundays();
        whatIsAnAct();
        fourteenActs();
        undone();
        slots();
        goneOnFrom();
        lastCall();
        Script.end("BoundaryOfActsTests");
    }

    private static void putByWhom() {
        Script.sentence("PUT: a MAN who has not FALLEN");
        Script.on("BG0M10M10", "fall(0) = 0; put(0, 0) = LATE; put(1, 0) = 1; bag(0, 4) = 2; undo() = 1; undo() = 0",
            "put(0, 0) = 1");
        Script.sentence("and has a SUNDAY has 1 less");
        Script.on("BG0M00M10M20", "put(0, 0) = LATE; put(1, 0) = 1; man(1, 1) = 0; put(1, 0) = LATE",
            "put(2, 0) = 2; man(2, 1) = 1; put(2, 0) = 3; man(2, 1) = 0; put(2, 0) = LATE; about(3) = 3");
        // Only who spends a Sunday as the days go by has to keep the last one, so a miser puts it in like others.
        Script.on("BG0M11", "put(0, 0) = 1; man(0, 1) = 0; put(0, 0) = LATE");
        Script.on("BG0M90", "put(0, 0) = 1; man(0, 1) = 8; man(0, 2) = 0; man(0, 3) = 1; man(0, 4) = 0");
    }

    private static void putWhere() {
        Script.sentence("a BREATH of his is on top in a BAG in which there are fewer than 9.");
        for (int kind = 0; kind <= 3; kind++) {
            Script.on("BG" + kind + "M00M20" + EIGHT, "put(1, 0) = 9; bag(0, 1) = 9; bag(0, 2) = 0; bag(0, 3) = 1",
                "put(1, 0) = FULL",
                "man(1, 1) = 1; about(9) = 1; march(0, 1) = 8; put(1, 0) = 9; put(1, 0) = LATE; march(0, 9) = 0");
            Script.on("BG" + kind + "M20", "bag(0, 3) = NONE; put(0, 0) = 1; bag(0, 3) = 0; bag(0, 2) = 0");
        }
    }

    private static void putRefusals() {
        Script.sentence("UNKNOWN: man, bag; LATE: he FELL, has no SUNDAY; FULL: there are 9.");
        Script.on("BG0G0M10M00M90" + NINE, "put(-1, 0) = UNKNOWN; put(3, 0) = UNKNOWN; put(0, -1) = UNKNOWN; put(0, 2) = UNKNOWN",
            "put(3, 2) = UNKNOWN; put(LOW, HIGH) = UNKNOWN; put(1, 2) = UNKNOWN; put(1, 0) = LATE; put(1, 1) = LATE",
            "put(0, 0) = FULL; put(0, 1) = 1; put(0, 0) = LATE; put(0, 1) = LATE",
            "put(2, 0) = FULL; fall(2) = 0; put(2, 0) = LATE; put(2, 1) = LATE; put(2, 2) = UNKNOWN; about(9) = 2");
    }

    private static void marchOfHowMany() {
        Script.sentence("MARCHED: n BREATHS (1 .. 9) of a BAG are played: they are LOST to those whose they are.");
        for (int kind = 0; kind <= 3; kind++) {
            Script.on("BG" + kind + "M00M00" + EIGHT + "P10", "march(0, 0) = BAD; march(0, 10) = BAD; march(0, -1) = BAD",
                "march(0, LOW) = BAD; march(0, HIGH) = BAD; march(0, 9) = 0; man(0, 4) = 8; man(1, 4) = 1; about(4) = 9");
            Script.on("BG" + kind + "M00" + NINE, "march(0, 1) = 8; march(0, 8) = 0; march(0, 1) = LATE; man(0, 4) = 9",
                "man(0, 1) = 0");
        }
    }

    private static void marchRefusals() {
        Script.sentence("MARCHED: how many are left in it. UNKNOWN; BAD: n; LATE: there are fewer.");
        Script.on("BG0G0M00P00P00P00", "march(0, 4) = LATE; march(0, 9) = LATE; march(0, 10) = BAD; march(0, 3) = 0",
            "march(0, 1) = LATE");
        Script.on("BG0G0M00P00P00P00", "march(0, 2) = 1; march(0, 2) = LATE; march(0, 1) = 0; about(9) = 2");
        Script.on("BG0G0M00P00", "march(1, 1) = LATE; march(1, 0) = BAD; march(1, 10) = BAD; march(2, 1) = UNKNOWN",
            "march(2, 0) = UNKNOWN; march(-1, 10) = UNKNOWN; march(HIGH, 1) = UNKNOWN; march(LOW, 1) = UNKNOWN; about(9) = 0");
        // Who fell has breaths that are marched on like others.
        Script.on("BG0M00P00", "fall(0) = 1; march(0, 1) = 0; man(0, 4) = 1; about(6) = 0");
    }

    private static void playedFromWhichEnd() {
        Script.sentence("They are played one by one, from the top; of a DEEP one from the lowest.");
        for (int kind = 0; kind <= 3; kind++) {
            boolean deep = kind == 1;
            Script.on("BG" + kind + "M00M00M00M00P00P10P20P30", "bag(0, 2) = 0; bag(0, 3) = 3",
                "march(0, 1) = 3; man(" + (deep ? 0 : 3) + ", 4) = 1",
                "bag(0, 2) = " + (deep ? 1 : 0) + "; bag(0, 3) = " + (deep ? 3 : 2),
                "march(0, 2) = 1; bag(0, 2) = " + (deep ? 3 : 0) + "; man(1, 4) = 1; man(2, 4) = 1; about(4) = 3");
        }
    }

    private static void claimedWhich() {
        Script.sentence("that BREATH of his in a BAG that is not SEALED, which would be played first of his, back");
        // 0 1 0 1 0 from the lowest on: of man 1's the upper one in a plain and in a leaky bag, the lower one in a deep one.
        String[] order = {"0 0 1 0", "0 0 1 0", "0 0 1 0"};
        for (int kind = 0; kind <= 2; kind++) {
            String[] due = order[kind].split(" ");
            Script.on("BG" + kind + "M00M00P00P10P00P10P00", "claim(1, 0) = 1; bag(0, 1) = 4; nth(0, 0) = " + due[0],
                "nth(0, 1) = " + due[1] + "; nth(0, 2) = " + due[2] + "; nth(0, 3) = " + due[3] + "; nth(0, 4) = NONE",
                "claim(1, 0) = 2; claim(1, 0) = LATE; bag(0, 4) = 1; man(1, 3) = 0; man(1, 4) = 0; about(4) = 0");
        }
        Script.sentence("others close up");
        Script.on("BG0M00M00M00P00P10P20", "claim(1, 0) = 1; bag(0, 1) = 2; bag(0, 2) = 0; bag(0, 3) = 2; put(1, 0) = 3",
            "bag(0, 3) = 1");
        Script.on("BG0M00M00M00P00P10P20", "claim(0, 0) = 1; bag(0, 2) = 1; bag(0, 3) = 2; claim(2, 0) = 1; bag(0, 3) = 1",
            "bag(0, 1) = 1");
        Script.on("BG0M00M00P00" + Script.times(8, "P10"), "claim(0, 0) = 1; bag(0, 2) = 1; bag(0, 1) = 8; put(0, 0) = 9",
            "put(0, 0) = LATE");
        for (int bag = 0; bag <= 2; bag++) {
            // Other bags have other breaths, which stay as they are.
            String others = (bag == 0 ? "" : "P10P30") + (bag == 1 ? "" : "P31P11") + (bag == 2 ? "" : "P12P12");
            Script.on("BG0G0G0M00M00M00M00P0" + bag + "P1" + bag + "P2" + bag + others, "claim(1, " + bag + ") = 1",
                "bag(" + bag + ", 2) = 0",
                "bag(" + bag + ", 3) = 2; bag(" + bag + ", 4) = 5; bag(" + (bag + 1) % 3 + ", 1) = 2",
                "bag(" + (bag + 2) % 3 + ", 1) = 2",
                "march(" + bag + ", 1) = 1; bag(" + bag + ", 2) = 0; bag(" + bag + ", 3) = 0; man(2, 4) = 1; about(4) = 1",
                "about(3) = 5");
        }
        Script.on("BG1M00M00" + EIGHT + "P10", "claim(1, 0) = 1; bag(0, 3) = 0; bag(0, 1) = 8; claim(0, 0) = 1; bag(0, 1) = 7");
    }

    private static void claimedFromWhere() {
        Script.sentence("CLAIMED: a MAN who has not FALLEN");
        Script.on("BG0M00M00P00P10", "fall(0) = 1; claim(0, 0) = LATE; claim(1, 0) = 1; undo() = 1; undo() = 0; claim(0, 0) = 1");
        Script.sentence("a BAG that is not SEALED");
        Script.on("BG0M00P00", "claim(0, 0) = 1");
        Script.on("BG1M00P00", "claim(0, 0) = 1");
        Script.on("BG2M00P00", "claim(0, 0) = 1");
        Script.on("BG3M10P00", "claim(0, 0) = LATE; put(0, 0) = 2; claim(0, 0) = LATE; march(0, 2) = 0; about(9) = 2");
    }

    private static void claimRefusals() {
        Script.sentence("CLAIMED: his SUNDAYS. UNKNOWN: man, bag; LATE: he FELL, it is SEALED, there is none of his.");
        Script.on("BG0G3G0M90M00P00P10P01", "claim(-1, 0) = UNKNOWN; claim(2, 0) = UNKNOWN; claim(0, -1) = UNKNOWN",
            "claim(0, 3) = UNKNOWN",
            "claim(LOW, 0) = UNKNOWN; claim(0, HIGH) = UNKNOWN; claim(0, 1) = LATE; claim(1, 1) = LATE; claim(0, 2) = LATE",
            "claim(0, 0) = 10; claim(0, 0) = LATE; claim(1, 0) = 1; claim(1, 0) = LATE; fall(1) = 0; claim(1, 0) = LATE",
            "claim(1, 3) = UNKNOWN; about(9) = 3");
    }

    private static void mostSundays() {
        Script.sentence("he has 1 SUNDAY more (99 at most)");
        // No text has room for more than 17 breaths of one man beside his 9 Sundays: 26 are the most that can be come by.
        Script.on("BG0G0M90" + NINE + Script.times(8, "P01"), "9* claim(0, 0); man(0, 1) = 18; 7* claim(0, 1); man(0, 1) = 25",
            "claim(0, 1) = 26; claim(0, 1) = LATE; claim(0, 0) = LATE; about(3) = 0; put(0, 0) = 1; claim(0, 0) = 26");
        Script.on("BG0M00P00", "man(0, 1) = 0; claim(0, 0) = 1; put(0, 0) = 1; man(0, 1) = 0; claim(0, 0) = 1");
    }

    private static void slit() {
        Script.sentence("SLIT: all BREATHS of a BAG are LOST.");
        for (int kind = 0; kind <= 3; kind++) {
            Script.on("BG" + kind + "M00M00" + EIGHT + "P10", "slit(0) = 9; bag(0, 1) = 0; man(0, 4) = 8; man(1, 4) = 1",
                "slit(0) = LATE");
        }
        Script.on("BG0M00M00M00P20P10", "slit(0) = 2; man(0, 4) = 0; man(1, 4) = 1; man(2, 4) = 1; about(4) = 2");
        Script.on("BG0G0G0M00M00P00P11P12P12", "slit(2) = 2; man(1, 4) = 2; bag(0, 2) = 0; bag(1, 2) = 1; slit(1) = 1",
            "man(1, 4) = 3; man(0, 4) = 0");
        Script.sentence("SLIT: how many were in it. UNKNOWN; LATE: there are none.");
        Script.on("BG0G0M10P00", "slit(1) = LATE; slit(2) = UNKNOWN; slit(-1) = UNKNOWN; slit(LOW) = UNKNOWN",
            "slit(HIGH) = UNKNOWN",
            "slit(0) = 1; slit(0) = LATE; put(0, 0) = 1; slit(0) = 1; about(9) = 3; about(4) = 2");
    }

    private static void fall() {
        Script.sentence("FELL: a MAN has FALLEN (for good; his BREATHS are where they are).");
        Script.on("BG0G3M90M00P00P10P01", "fall(0) = 2; bag(0, 1) = 2; bag(0, 2) = 0; bag(1, 3) = 0; man(0, 1) = 9",
            "man(0, 4) = 0",
            "man(0, 5) = 1; 7* day(); man(0, 5) = 1; fall(0) = LATE; about(5) = 1");
        Script.sentence("FELL: LEFT. UNKNOWN; LATE: he has FALLEN.");
        Script.on("BG0M00M00M00P00P10P10", "fall(2) = 0; fall(2) = LATE; fall(1) = 2; fall(0) = 3; fall(0) = LATE",
            "fall(1) = LATE",
            "fall(3) = UNKNOWN; fall(-1) = UNKNOWN; fall(LOW) = UNKNOWN; fall(HIGH) = UNKNOWN; fall(32) = UNKNOWN; about(9) = 3");
    }

    private static void leakyBags() {
        Script.sentence("A DAY: of each LEAKY BAG the lowest BREATH is LOST");
        Script.on("BG2G2G0M00M00M00P00P10P20P11P22", "day() = 2; bag(0, 2) = 1; bag(0, 3) = 2; bag(1, 1) = 0; bag(2, 1) = 1",
            "man(0, 4) = 1; man(1, 4) = 1; man(2, 4) = 0; day() = 1; day() = 1; day() = 0; about(3) = 1; about(4) = 4");
        Script.on("BG2G2G2M00P00P01P02", "day() = 3; day() = 0");
        Script.on("BG0G1G3M00P00P01P02", "9* day() = 0; about(3) = 3; about(4) = 0");
        Script.on("BG2M00" + NINE, "9* day() = 1; day() = 0; man(0, 4) = 9");
        Script.sentence("A DAY: how many are LOST by it.");
        Script.onNew("day() = 0; about(9) = 1; about(2) = 1");
    }

    private static void whichDays() {
        Script.sentence("if THE DAY is one by which 6 is left by 7");
        Script.on("BM90", "6* day(); man(0, 1) = 9; about(2) = 6; day() = 0; man(0, 1) = 8; about(2) = 7",
            "6* day(); man(0, 1) = 8; about(2) = 13; day() = 0; man(0, 1) = 7; about(2) = 14; day() = 0; man(0, 1) = 7");
        Script.sentence("THE DAY is one more.");
        Script.on("BM90", "about(2) = 0; day() = 0; about(2) = 1; day() = 0; about(2) = 2; undo() = 1; about(2) = 1");
    }

    private static void whoSpends() {
        Script.sentence("each MAN who has not FALLEN spends a SUNDAY, if he has one (a MISER: if he has two, or more)");
        for (int kind = 0; kind <= 3; kind++) {
            int least = kind == 1 ? 1 : 0;
            Script.on("BM0" + kind + "M1" + kind + "M2" + kind + "M3" + kind, "6* day(); about(7) = 6; day() = 0; man(0, 1) = 0",
                "man(1, 1) = " + least + "; man(2, 1) = 1; man(3, 1) = 2; man(2, 2) = 0; man(3, 2) = 0");
        }
    }

    private static void whoGrieves() {
        Script.sentence("who spends none GRIEVES 1 (DRUMMER 2, PIPER 0).");
        Script.on("BM00M02M03M10", "7* day(); man(0, 2) = 1; man(1, 2) = 2; man(2, 2) = 0; man(3, 2) = 0; about(8) = 3",
            "7* day(); man(0, 2) = 2; man(1, 2) = 4; man(2, 2) = 0; man(3, 2) = 1; about(8) = 7");
        Script.on("BM01M11M21", "7* day(); man(0, 2) = 1; man(1, 2) = 1; man(2, 2) = 0; man(1, 1) = 1; man(2, 1) = 1",
            "7* day(); man(0, 2) = 2; man(1, 2) = 2; man(2, 2) = 1");
        Script.on("BM10M12M13", "7* day(); about(8) = 0; about(7) = 0");
    }

    private static void fallenMenOnSundays() {
        Script.sentence("each MAN who has not FALLEN spends");
        Script.on("BM90M90M00M02M11", "fall(0) = 0; fall(2) = 0; fall(3) = 0; fall(4) = 0; 7* day(); man(0, 1) = 9",
            "man(1, 1) = 8",
            "man(2, 2) = 0; man(3, 2) = 0; man(4, 2) = 0; man(4, 1) = 1; about(8) = 0; about(4) = 0");
        Script.on("BM00M00M00M00M00", "7* day(); about(8) = 5; about(4) = 0; man(0, 4) = 0; man(4, 2) = 1; about(7) = 0",
            "about(3) = 0");
    }

    private static void whatIsAnAct() {
        Script.sentence("ACTS (PUT, MARCHED, CLAIMED, SLIT, FELL, DAYS) are a row");
        Script.on("BG0G0M90P00P00P01", "about(9) = 0; put(0, 0) = 3; about(9) = 1; march(0, 1) = 2; about(9) = 2",
            "claim(0, 0) = 9",
            "about(9) = 3; slit(1) = 1; about(9) = 4; fall(0) = 1; about(9) = 5; day() = 0; about(9) = 6");
        Script.on("BG0G0M90P00", "feel(0, 0, 1, 1) = 1; unfeel() = 1; seed(1) = 0; years(30); keep(0) = 0; about(9) = 0",
            "undo() = LATE");
        Script.on("BG0M00", "put(0, 0) = LATE; march(0, 1) = LATE; claim(0, 0) = LATE; slit(0) = LATE; fall(1) = UNKNOWN",
            "about(9) = 0");
    }

    private static void fourteenActs() {
        Script.sentence("(14 at most; when it is full, the first one is forgotten)");
        Script.on("BM90", "13* day(); about(9) = 13; 13* undo(); undo() = LATE; about(2) = 0; man(0, 1) = 9");
        Script.on("BM90", "14* day(); about(9) = 14; undo() = 13; 13* undo(); about(9) = 0; undo() = LATE; about(2) = 0",
            "man(0, 1) = 9");
        Script.on("BM90", "15* day(); about(9) = 14; undo() = 13; 13* undo(); undo() = LATE; about(2) = 1");
        Script.on("BM90", "29* day(); about(9) = 14; 14* undo(); undo() = LATE; about(2) = 15; man(0, 1) = 7");
        // The row is filled, emptied in part, and filled again across its end.
        Script.on("BM90", "20* day(); 5* undo(); about(2) = 15; about(9) = 9; 7* day(); about(9) = 14; about(2) = 22",
            "undo() = 13; about(2) = 21; 13* undo(); about(2) = 8; undo() = LATE");
        Script.on("BG0M90", "put(0, 0) = 1; 14* day(); 14* undo(); undo() = LATE; about(3) = 1; man(0, 1) = 8; about(2) = 0");
    }

    private static void undone() {
        Script.sentence("The last ACT is undone: how many are left. LATE: there is none.");
        Script.on("BG0M10P00", "undo() = LATE; put(0, 0) = 2; undo() = 0; undo() = LATE; man(0, 1) = 1; bag(0, 1) = 1");
        Script.on("BG0G1M10M10P00P10P01P11", "put(0, 0) = 3; put(1, 1) = 3; undo() = 1; bag(1, 1) = 2; bag(0, 1) = 3",
            "undo() = 0; bag(0, 1) = 2");
        Script.on("BG0M00M00P00P10", "march(0, 2) = 0; undo() = 0; bag(0, 2) = 0; bag(0, 3) = 1; about(4) = 0");
        Script.on("BG0M00M00M00P00P10P20", "claim(1, 0) = 1; undo() = 0; nth(0, 0) = 2; nth(0, 1) = 1; nth(0, 2) = 0",
            "man(1, 1) = 0");
        Script.on("BG0M00M00P00P10", "slit(0) = 2; undo() = 0; bag(0, 2) = 0; bag(0, 3) = 1; about(4) = 0; man(0, 4) = 0");
        Script.on("BG0M10P00", "fall(0) = 1; put(0, 0) = LATE; undo() = 0; about(5) = 0; about(6) = 0; put(0, 0) = 2");
        Script.on("BG2M10M02P00", "7* day(); undo() = 6; about(2) = 6; man(0, 1) = 1; man(1, 2) = 0; 6* undo(); bag(0, 1) = 1");
        // Each kind of act behind a day: only the act is undone, and the day then too.
        String[] acts = {"put(0, 0) = 3", "march(1, 2) = 0", "claim(1, 0) = 2", "slit(0) = 2", "fall(1) = 2", "day() = 1"};
        for (String act : acts) {
            Script.on("BG0G2M40M12P00P10P01P11P01", "day() = 1; " + act + "; about(9) = 2; undo() = 1; about(2) = 1",
                "about(3) = 4; about(4) = 1",
                "about(5) = 0; about(7) = 5; bag(0, 2) = 0; bag(0, 3) = 1; bag(1, 2) = 1; bag(1, 3) = 0; undo() = 0",
                "about(2) = 0; about(3) = 5; about(4) = 0; bag(1, 2) = 0; undo() = LATE");
        }
        // What is felt, the seed, the text and what is kept are no acts, and stay.
        Script.on("BG0M10P00", "day() = 0; feel(0, 0, 1, 1) = 1; seed(8) = 0; keep(0) = 1; write(71) = 10; undo() = 0",
            "about(10) = 1; seed(8) = 8; about(11) = 10; about(2) = 0; again(0) = 1");
    }

    private static void slots() {
        Script.sentence("They are kept: THE DAY. UNKNOWN.");
        Script.on("BG0M90", "keep(-1) = UNKNOWN; keep(2) = UNKNOWN; keep(LOW) = UNKNOWN; keep(HIGH) = UNKNOWN",
            "keep(32) = UNKNOWN",
            "again(0) = LATE; keep(0) = 0; again(1) = LATE; again(0) = 0; day() = 0; keep(1) = 1; again(0) = 0; again(1) = 1");
        Script.on("BG0M90", "keep(0) = 0; day() = 0; keep(0) = 1; day() = 0; again(0) = 1; again(0) = 1; about(2) = 1");
        Script.sentence("They are as they were kept: THE DAY. UNKNOWN; LATE: none were kept.");
        Script.on("BG0M90", "again(-1) = UNKNOWN; again(2) = UNKNOWN; again(LOW) = UNKNOWN; again(HIGH) = UNKNOWN",
            "again(32) = UNKNOWN",
            "again(0) = LATE; again(1) = LATE; keep(1) = 0; again(0) = LATE; day() = 0; again(1) = 0; about(2) = 0");
    }

    private static void goneOnFrom() {
        Script.sentence("SLOTS 0 .. 1 keep BREATHS, SUNDAYS, who GRIEVED, FELL, what is LOST, THE DAY (no ACTS when one goes on).");
        for (int slot = 0; slot <= 1; slot++) {
            String keep = "keep(" + slot + ") = 8", again = "again(" + slot + ") = 8", other = "keep(" + (1 - slot) + ")";
            Script.on("BG0G2M92M02M10P00P10P01", other, "8* day(); march(0, 1) = 1; fall(2) = 0",
                "about(9) = 10", keep, "about(9) = 10",
                "7* day(); slit(0) = 1; fall(0) = 0; fall(1) = 0", other, again, "about(9) = 0; undo() = LATE",
                "about(2) = 8; about(3) = 1; about(4) = 2; about(5) = 4; about(7) = 8; about(8) = 2; man(1, 2) = 2",
                "man(1, 4) = 1",
                "bag(0, 2) = 0; put(0, 0) = 2; undo() = 0; undo() = LATE", again, "bag(0, 1) = 1");
        }
        Script.on("BG0M10P00", "keep(0) = 0; feel(0, 0, 1, 1) = 1; seed(8) = 0; write(71) = 10; day() = 0; again(0) = 0",
            "about(10) = 1; seed(8) = 8; about(11) = 10");
        // Who fell behind the keeping stands again.
        Script.on("BG0M10P00", "keep(1) = 0; fall(0) = 1; put(0, 0) = LATE; again(1) = 0; about(5) = 0; put(0, 0) = 2");
    }

    private static void lastCall() {
        Script.sentence("An object is used for at most 512 calls after it has been made");
        BreathBags x = new BreathBags();
        for (char letter : "BM90".toCharArray()) {
            x.write(letter);
        }
        x.regiment();
        for (int i = 6; i <= 510; i++) {
            Script.check("day()", x.day(), 0);
        }
        Script.check("the 511th: man(0, 2)", x.man(0, 2), 505 / 7 - 9);
        Script.check("the 512th: about(2)", x.about(2), 505);
    }
}
