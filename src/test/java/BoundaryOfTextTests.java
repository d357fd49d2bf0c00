/** Sentences of the document that name a boundary of THE TEXT, of FAULT, and of what is asked about a REGIMENT. */
public final class BoundaryOfTextTests {
    private static final int NONE = -9;
    private static final String NINE = Script.times(9, "P00"), EIGHT = Script.times(8, "P00");

    public static void main(String[] args) {
        bytes();
        howLong();
        theFirstLetter();
        kindsOfBags();
        mostBags();
        menAndTheirFigures();
        mostMen();
        menOfBreaths();
        bagsOfBreaths();
        fewerThanNine();
        nothingBehindMendsAFault();
        cutOffAnywhere();
        lengthSetAside();
        numbered();
        atFirst();
        madeAnew();
        whatStaysBehindARegiment();
        regimentRefused();
        about();
        bag();
        man();
        Script.end("BoundaryOfTextTests");
    }

    private static void bytes() {
        Script.sentence("A byte (0 .. 255) comes behind THE TEXT: how long it is. BAD");
        Script.onNew("write(-1) = BAD; write(0) = 1; write(1) = 2; about(11) = 2");
        Script.onNew("write(256) = BAD; write(255) = 1; write(254) = 2; about(11) = 2");
        Script.onNew("write(LOW) = BAD; write(HIGH) = BAD; write(322) = BAD; write(-190) = BAD; about(11) = 0");
        // 322 and -190 are B by their lowest eight bits, and must not be taken for it.
        Script.onNew("write(66) = 1; fault() = NONE");
    }

    private static void howLong() {
        Script.sentence("THE TEXT is bytes (60 at most).");
        Script.onNew("58* write(66); write(66) = 59; write(66) = 60; write(66) = FULL; write(0) = FULL; about(11) = 60");
        Script.sentence("BAD; FULL: there are 60.");
        Script.onNew("60* write(66); write(-1) = BAD; write(256) = BAD; write(255) = FULL");
        Script.sentence("THE TEXT is empty: how long it was.");
        Script.onNew("wipe() = 0; write(66) = 1; wipe() = 1; wipe() = 0; about(11) = 0; fault() = 0");
        Script.onNew("60* write(66); wipe() = 60; write(66) = 1; fault() = NONE");
        Script.on("BG0M10P00", "wipe() = 9; about(0) = 1; about(1) = 1; about(3) = 1; put(0, 0) = 2; undo() = 0");
    }

    private static void theFirstLetter() {
        Script.sentence("A REGIMENT is a TEXT: B, then THINGS, none or more");
        Script.fault("", 0);
        Script.fault("A", 0);
        Script.fault("C", 0);
        Script.fault("b", 0);
        Script.fault("B", NONE);
        Script.fault("BB", 1);
        Script.fault("BG0B", 3);
        for (char c = 0; c < 256; c++) {
            boolean thing = c == 'G' || c == 'M' || c == 'P';
            Script.fault("BG0M00" + c, thing ? 7 : 6);
        }
    }

    private static void kindsOfBags() {
        Script.sentence("Gk       a BAG of KIND k (0 PLAIN, 1 DEEP, 2 LEAKY, 3 SEALED)");
        for (char c = 0; c < 256; c++) {
            Script.fault("BG" + c, c >= '0' && c <= '3' ? NONE : 2);
        }
        Script.on("BG0G1G2", "bag(0, 0) = 0; bag(1, 0) = 1; bag(2, 0) = 2");
        Script.on("BG3", "bag(0, 0) = 3");
    }

    private static void mostBags() {
        Script.sentence("BAGS are 0, 1, 2 (3 at most)");
        Script.fault("BG0G0G0", NONE);
        Script.fault("BG0G0G0G", 7);
        Script.fault("BG0G0G0G0", 7);
        Script.fault("BG0G0M00G0", NONE);
        Script.fault("BG0G0M00G0G", 10);
        Script.on("BG0G0G0", "about(0) = 3; bag(2, 0) = 0; bag(3, 0) = UNKNOWN; bag(-1, 0) = UNKNOWN");
        Script.on("BG0G0", "about(0) = 2; bag(1, 0) = 0; bag(2, 0) = UNKNOWN");
        Script.on("B", "about(0) = 0; bag(0, 0) = UNKNOWN");
    }

    private static void menAndTheirFigures() {
        Script.sentence("Msk      a MAN with s (0 .. 9) SUNDAYS, of KIND k (0 PLAIN, 1 MISER, 2 DRUMMER, 3 PIPER)");
        for (char c = 0; c < 256; c++) {
            boolean figure = c >= '0' && c <= '9';
            Script.fault("BM" + c, figure ? 3 : 2);
            Script.fault("BM" + c + "0", figure ? NONE : 2);
            Script.fault("BM0" + c, c >= '0' && c <= '3' ? NONE : 3);
        }
        Script.on("BM00M91M12M83", "man(0, 1) = 0; man(1, 1) = 9; man(2, 1) = 1; man(3, 1) = 8",
            "man(0, 0) = 0; man(1, 0) = 1; man(2, 0) = 2; man(3, 0) = 3");
    }

    private static void mostMen() {
        Script.sentence("(5 at most).");
        Script.fault("BM00M00M00M00M00", NONE);
        Script.fault("BM00M00M00M00M00M", 16);
        Script.fault("BM00M00M00M00M00M00", 16);
        Script.fault("BM00M00M00M00G0M00M", 18);
        Script.on("BM00M00M00M00M00", "about(1) = 5; man(4, 0) = 0; man(5, 0) = UNKNOWN; man(-1, 0) = UNKNOWN");
        Script.on("BM00M00M00M00", "about(1) = 4; man(3, 0) = 0; man(4, 0) = UNKNOWN");
        Script.on("B", "about(1) = 0; man(0, 0) = UNKNOWN");
    }

    private static void menOfBreaths() {
        Script.sentence("a BREATH of MAN m (told ahead)");
        Script.fault("BG0P", 3);
        Script.fault("BG0P00", 3);
        Script.fault("BG0P00M00", 3);
        Script.fault("BG0M00P00", NONE);
        Script.fault("BG0M00P10", 7);
        Script.fault("BG0M00P10M00", 7);
        Script.fault("BG0M00M00P10", NONE);
        Script.fault("BG0M00M00P20", 10);
        Script.fault("BG0M00M00M00M00M00P40", NONE);
        Script.fault("BG0M00M00M00M00M00P5", 19);
        for (char c = 0; c < 256; c++) {
            Script.fault("BG0M00M00P" + c + "0", c == '0' || c == '1' ? NONE : 10);
        }
    }

    private static void bagsOfBreaths() {
        Script.sentence("on top in BAG b (told ahead)");
        Script.fault("BM00P", 4);
        Script.fault("BM00P00", 4);
        Script.fault("BM00P00G0", 4);
        Script.fault("BM00G0P00", NONE);
        Script.fault("BG0M00P01", 8);
        Script.fault("BG0M00P01G0", 8);
        Script.fault("BG0G0M00P01", NONE);
        Script.fault("BG0G0M00P02", 10);
        Script.fault("BG0G0G0M00P02", NONE);
        Script.fault("BG0G0G0M00P03", 12);
        for (char c = 0; c < 256; c++) {
            Script.fault("BG0G0M00P0" + c, c == '0' || c == '1' ? NONE : 10);
        }
        Script.on("BG0M00M00P00P10", "bag(0, 2) = 0; bag(0, 3) = 1");
        Script.on("BG1M00M00P00P10", "bag(0, 2) = 0; bag(0, 3) = 1");
    }

    private static void fewerThanNine() {
        Script.sentence("in which fewer than 9 are told yet");
        Script.fault("BG0M00" + EIGHT, NONE);
        Script.fault("BG0M00" + NINE, NONE);
        // No bag has room, so the P itself can not be; with room in another the bag's figure is the first that can not.
        Script.fault("BG0M00" + NINE + "P", 33);
        Script.fault("BG0M00" + NINE + "P00", 33);
        Script.fault("BG0G0M00" + NINE + "P", 36);
        Script.fault("BG0G0M00" + NINE + "P0", 37);
        Script.fault("BG0G0M00" + NINE + "P00", 37);
        Script.fault("BG0G0M00" + NINE + "P01", NONE);
        Script.fault("BG0M00" + NINE + "G0P01", NONE);
        Script.fault("BG0M00" + NINE + "G0P00", 37);
        Script.fault("BG0G0M00" + NINE + Script.times(8, "P01"), NONE);
        // A bag that is full of different men's breaths is full too.
        Script.fault("BG0M00M00" + EIGHT + "P10P", 36);
        Script.on("BG0M00" + NINE, "bag(0, 1) = 9; about(3) = 9");
    }

    private static void nothingBehindMendsAFault() {
        Script.sentence("FAULT: the place of the first byte by which THE TEXT can be no REGIMENT, whatever came behind it");
        Script.fault("BX", 1);
        Script.fault("BXG0M00", 1);
        Script.fault("BG4G5", 2);
        Script.fault("BG9M00P00", 2);
        Script.fault("BMxG4", 2);
        Script.fault("BM0xMxx", 3);
        Script.fault("XG4", 0);
        Script.fault("BG0M00P00 ", 9);
        Script.fault("BG0M00P00 P00", 9);
    }

    private static void cutOffAnywhere() {
        Script.sentence("its length, if it is only not at its end; NONE: none.");
        String[] things = {"B", "G0", "M30", "P00", "G2", "M91", "P10", "P01", "P11", "M13", "P20", "G3", "P22"};
        StringBuilder whole = new StringBuilder();
        for (String thing : things) {
            for (int cut = 1; cut < thing.length(); cut++) {
                String text = whole + thing.substring(0, cut);
                Script.fault(text, text.length());
            }
            whole.append(thing);
            Script.fault(whole.toString(), NONE);
        }
    }

    private static void lengthSetAside() {
        Script.sentence("(its length set aside)");
        // 59 bytes are the most that a regiment has; what begins at the sixtieth has no room to end, but might.
        String most = "BG0G0M00" + NINE + Script.times(8, "P01");
        Script.check("its length", most.length(), 59);
        Script.fault(most, NONE);
        Script.fault(most + "G", 60);
        Script.fault(most + "M", 60);
        Script.fault(most + "P", 60);
        Script.fault(most + "X", 59);
        String three = "BG0G0G0M00" + NINE + Script.times(7, "P01");
        Script.check("its length", three.length(), 58);
        Script.fault(three + "M0", 60);
        Script.fault(three + "G0", 58);
        Script.fault(three + "P3", 59);
    }

    private static void numbered() {
        Script.sentence("numbered as they are told, each kind for itself");
        Script.on("BM30G1M71G3P10P01M92P20", "bag(0, 0) = 1; bag(1, 0) = 3; man(0, 1) = 3; man(1, 1) = 7; man(2, 1) = 9",
            "bag(0, 2) = 1; bag(0, 3) = 2; bag(1, 2) = 0; about(0) = 2; about(1) = 3; about(3) = 3");
    }

    private static void atFirst() {
        Script.sentence("At first there is nothing.");
        Script.onNew("about(0) = 0; about(1) = 0; about(2) = 0; about(3) = 0; about(4) = 0; about(5) = 0; about(6) = 0",
            "about(7) = 0; about(8) = 0; about(9) = 0; about(10) = 0; about(11) = 0; seed(0) = 0");
        Script.onNew("bag(0, 0) = UNKNOWN; man(0, 0) = UNKNOWN; put(0, 0) = UNKNOWN; march(0, 1) = UNKNOWN",
            "claim(0, 0) = UNKNOWN; slit(0) = UNKNOWN; fall(0) = UNKNOWN; undo() = LATE; later(0, 0, 0) = UNKNOWN",
            "holds(0, 0) = UNKNOWN; nth(0, 0) = UNKNOWN; waits(0, 0) = UNKNOWN; share(0, true) = UNKNOWN",
            "feel(0, 0, 1, 1) = UNKNOWN; rests(0, 1, 0, 0) = UNKNOWN; again(0) = LATE; again(1) = LATE");
        Script.onNew("route(1, 0) = NONE; route(20, 1) = NONE; judge(1, 0) = NONE; which(0) = 40; which(1) = 0",
            "battle(0, 10, true) = 1; battle(0, 10, false) = 1; battle(1, 10, true) = 0; years(30) = 0; unfeel() = 0");
        Script.onNew("day() = 0; about(2) = 1; about(9) = 1; keep(0) = 1; undo() = 0; again(0) = 1; about(9) = 0");
    }

    private static void madeAnew() {
        Script.sentence("When THE REGIMENT is made anew, BREATHS are as told, nobody GRIEVED or FELL, nothing is LOST, THE DAY is 0.");
        Script.on("BG2G0M00M92P00P11", "8* day(); put(1, 1) = 2; slit(1) = 2; fall(1) = 0",
            "about(2) = 8; about(3) = 0; about(4) = 3; about(5) = 2; about(7) = 7; about(8) = 1",
            "regiment() = 222; about(2) = 0; about(3) = 2; about(4) = 0; about(5) = 0; about(6) = 0; about(7) = 9; about(8) = 0",
            "man(0, 2) = 0; man(0, 4) = 0; man(1, 5) = 0; man(1, 1) = 9; bag(0, 2) = 0; bag(1, 2) = 1; bag(1, 1) = 1");
        Script.sentence("100 times BAGS, 10 times MEN, and BREATHS.");
        Script.onNew("tell(B); regiment() = 0; tell(BG0); regiment() = 100; tell(BM00); regiment() = 10");
        Script.onNew("tell(BG0G0G0M00M00M00M00M00P00); regiment() = 351");
        // Ten breaths and more go over into the men's figure, for the sum is only told as a sum.
        Script.onNew("tell(BG0G0M00" + NINE + Script.times(8, "P01") + "); regiment() = 227");
    }

    private static void whatStaysBehindARegiment() {
        Script.sentence("(no ACTS; what was kept is gone; FELT, THE SEED stay)");
        Script.on("BG0M10P00", "day() = 0; keep(0) = 1; keep(1) = 1; feel(0, 0, 1, 1) = 1; seed(-5) = 0; about(9) = 1",
            "regiment() = 111; about(9) = 0; undo() = LATE; again(0) = LATE; again(1) = LATE",
            "about(10) = 1; which(0) = 31; seed(-5) = -5; about(11) = 9");
    }

    private static void regimentRefused() {
        Script.sentence("LATE: a FAULT.");
        Script.on("BG0M10P00", "put(0, 0) = 2; keep(1) = 0; tell(BG); regiment() = LATE; about(0) = 1; about(3) = 2",
            "about(9) = 1; about(11) = 2; write(48) = 3; again(1) = 0; regiment() = 100; again(1) = LATE; about(1) = 0");
        Script.onNew("regiment() = LATE; write(66) = 1; regiment() = 0");
    }

    private static void about() {
        Script.sentence("FELT (10), bytes of THE TEXT (11). BAD.");
        Script.on("BG0G0M20M00P00P10P11", "feel(0, 0, 1, 1) = 1; feel(0, 0, 1, 1) = 2; march(0, 1) = 1; day() = 0; fall(1) = 1",
            "about(-1) = BAD; about(0) = 2; about(1) = 2; about(2) = 1; about(3) = 2; about(4) = 1; about(5) = 2",
            "about(6) = 1; about(7) = 2; about(8) = 0; about(9) = 3; about(10) = 2; about(11) = 20; about(12) = BAD",
            "about(LOW) = BAD; about(HIGH) = BAD");
        Script.sentence("who FELL (5: bits)");
        Script.on("BM00M00M00M00M00", "about(5) = 0; fall(4) = 0; about(5) = 16; fall(0) = 0; about(5) = 17; 1* fall(1)",
            "fall(2) = 0; fall(3) = 0; about(5) = 31");
        Script.sentence("LEFT: BREATHS of MEN who FELL, in all BAGS.");
        Script.on("BG0G1G3M00M00P00P01P02P10P12", "about(6) = 0; fall(0) = 3; about(6) = 3; fall(1) = 5; about(6) = 5",
            "march(2, 1) = 1; about(6) = 4; slit(2) = 1; slit(1) = 1; slit(0) = 2; about(6) = 0");
        Script.sentence("SUNDAYS of all (7), how much all GRIEVED (8)");
        Script.on("BM90M02M00", "about(7) = 9; 7* day(); about(7) = 8; about(8) = 3; fall(0) = 0; fall(1) = 0",
            "about(7) = 8; about(8) = 3; 7* day(); about(7) = 8; about(8) = 4");
    }

    private static void bag() {
        Script.sentence("whose is the lowest (2; NONE), the top one (3; NONE), MEN whose there are any (4: bits). UNKNOWN; BAD.");
        Script.on("BG0G1G0M10M10M00M00M10P40P00P11", "bag(0, 1) = 2; bag(0, 2) = 4; bag(0, 3) = 0; bag(0, 4) = 17",
            "bag(1, 1) = 1; bag(1, 2) = 1; bag(1, 3) = 1; bag(1, 4) = 2",
            "bag(2, 1) = 0; bag(2, 2) = NONE; bag(2, 3) = NONE; bag(2, 4) = 0",
            "put(0, 2) = 1; bag(2, 2) = 0; bag(2, 3) = 0; bag(2, 4) = 1; march(2, 1) = 0; bag(2, 2) = NONE; bag(2, 4) = 0");
        Script.on("BG0M00M00M00M00M00P00P10P20P30P40", "bag(0, 4) = 31; march(0, 1) = 4; bag(0, 4) = 15");
        Script.on("BG0", "bag(0, -1) = BAD; bag(0, 0) = 0; bag(0, 4) = 0; bag(0, 5) = BAD; bag(0, LOW) = BAD; bag(0, HIGH) = BAD",
            "bag(1, 0) = UNKNOWN; bag(1, 5) = UNKNOWN; bag(-1, -1) = UNKNOWN; bag(HIGH, 0) = UNKNOWN; bag(LOW, 0) = UNKNOWN");
    }

    private static void man() {
        Script.sentence("BREATHS of his in all BAGS (3), LOST (4), 1 if he FELL (5). UNKNOWN; BAD.");
        Script.on("BG0G1G2M52P00P01P02", "man(0, -1) = BAD; man(0, 0) = 2; man(0, 1) = 5; man(0, 2) = 0; man(0, 3) = 3",
            "man(0, 4) = 0; man(0, 5) = 0; man(0, 6) = BAD; man(0, LOW) = BAD; man(0, HIGH) = BAD",
            "day() = 1; man(0, 3) = 2; man(0, 4) = 1; fall(0) = 2; man(0, 5) = 1; undo() = 1; man(0, 5) = 0",
            "man(1, 0) = UNKNOWN; man(1, 6) = UNKNOWN; man(-1, -1) = UNKNOWN; man(HIGH, 0) = UNKNOWN; man(LOW, 0) = UNKNOWN");
    }
}
