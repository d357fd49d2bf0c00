/** Sentences of the document about refusals and asking calls as such: which comes first, and that nothing is changed. */
public final class BoundaryOfRefusalsTests {
    /** Three bags, three men; the last bag is sealed; man 1 has no Sunday. */
    private static final String TEXT = "BG0G2G3M90M00M92P00P10P21P01P02";
    /** Acts, slots, what is felt and the seed, so that a change of any of them would be seen. */
    private static final String LIVED = "day() = 1; put(0, 0) = 3; keep(0) = 1; march(0, 1) = 2; fall(2) = 0; feel(0, 0, 1, 1) = 1; "
        + "feel(1, 0, 2, 1) = 2; seed(-77) = 0; write(71) = 32; day() = 1; about(9) = 5";

    public static void main(String[] args) {
        noSuch();
        severalOfWrite();
        severalOfAsking();
        severalOfActs();
        severalOfTheRest();
        refusedActs();
        refusedWhenFull();
        refusedOthers();
        askingChangesNothing();
        askingOfAFullRegiment();
        pairsAtRest();
        Script.end("BoundaryOfRefusalsTests");
    }

    private static void noSuch() {
        Script.sentence("UNKNOWN -1 (there is no such MAN, BAG, SLOT)");
        // Three men, three bags, two slots: the last there is beside the first there is not.
        Script.on(TEXT, "man(2, 0) = 2; man(3, 0) = -1; bag(2, 0) = 3; bag(3, 0) = -1; keep(1) = 0; keep(2) = -1",
            "again(1) = 0; again(2) = -1",
            "later(2, 0, 0) = 9; later(3, 0, 0) = -1; holds(2, 0) = 1; holds(3, 0) = -1; nth(2, 0) = 0; nth(3, 0) = -1",
            "waits(2, 1) = 2; waits(3, 1) = -1; waits(2, 3) = -1; share(2, true) = 1; share(2, false) = 6; share(3, true) = -1",
            "rests(0, 2, 2, 0) = 4; rests(0, 3, 2, 0) = -1; rests(3, 0, 2, 0) = -1; rests(0, 2, 3, 0) = -1",
            "feel(2, 2, 1, 1) = 1; feel(3, 2, 1, 1) = -1; feel(2, 3, 1, 1) = -1; put(2, 2) = 2; put(3, 2) = -1; put(2, 3) = -1",
            "march(2, 1) = 1; march(3, 1) = -1; claim(2, 1) = 9; claim(3, 1) = -1; claim(2, 3) = -1; slit(2) = 1; slit(3) = -1",
            "fall(2) = 0; fall(3) = -1");
        Script.sentence("BAD -2, LATE -3, FULL -4.");
        Script.on(TEXT, "about(12) = -2; undo() = -3; 29* write(66); write(66) = -4");
        Script.sentence("NONE is -9.");
        Script.on(TEXT, "fault() = -9; nth(0, 2) = -9; nth(0, 1) = 0; route(6, 0) = -9; judge(1, 0) = -9");
    }

    private static void severalOfWrite() {
        Script.sentence("Of several what is told first.");
        Script.onNew("60* write(66); write(-1) = BAD; write(256) = BAD; write(0) = FULL");
        Script.on(TEXT, "bag(3, 5) = UNKNOWN; bag(0, 5) = BAD; man(3, 6) = UNKNOWN; man(0, 6) = BAD");
    }

    private static void severalOfActs() {
        Script.sentence("Of several what is told first.");
        String full = "BG0G0M10M00M10" + Script.times(9, "P00");
        Script.on(full, "fall(2) = 0; put(3, 0) = UNKNOWN; put(2, 2) = UNKNOWN; put(1, 2) = UNKNOWN; put(2, 0) = LATE",
            "put(1, 0) = LATE; put(0, 0) = FULL; put(0, 1) = 1");
        Script.on(full, "march(2, 0) = UNKNOWN; march(2, 10) = UNKNOWN; march(1, 0) = BAD; march(1, 10) = BAD",
            "march(1, 1) = LATE; march(0, 9) = 0");
        Script.on("BG3M00M00P00", "fall(1) = 0; claim(2, 0) = UNKNOWN; claim(1, 1) = UNKNOWN; claim(1, 0) = LATE",
            "claim(0, 0) = LATE; claim(0, 1) = UNKNOWN");
        Script.on(full, "slit(2) = UNKNOWN; slit(1) = LATE; slit(0) = 9; fall(3) = UNKNOWN; fall(2) = 0; fall(2) = LATE");
    }

    private static void severalOfAsking() {
        Script.sentence("Of several what is told first.");
        Script.on(TEXT, "later(3, 41, 2) = UNKNOWN; later(0, 41, 2) = BAD; later(0, 40, 2) = BAD; later(0, 41, 1) = BAD",
            "later(0, 40, 1) = 0",
            "holds(3, 41) = UNKNOWN; holds(0, 41) = BAD; nth(3, 9) = UNKNOWN; nth(0, 9) = BAD; nth(0, 8) = NONE",
            "route(21, 2) = BAD; route(20, 2) = BAD; route(20, 1) = NONE; judge(5, -1) = BAD; judge(4, -1) = BAD",
            "judge(4, 0) = NONE");
    }

    private static void severalOfTheRest() {
        Script.sentence("Of several what is told first.");
        Script.on(TEXT, "6* feel(0, 0, 1, 1); feel(3, 0, 0, 2) = UNKNOWN; feel(0, 3, 0, 2) = UNKNOWN",
            "feel(0, 0, 0, 1) = BAD; feel(0, 0, 1, 2) = BAD; feel(0, 0, 1, 1) = FULL",
            "rests(3, 3, 0, 2) = UNKNOWN; rests(0, 0, 3, 2) = UNKNOWN; rests(0, 0, 0, 2) = BAD; rests(0, 0, 0, 0) = BAD",
            "rests(0, 1, 0, 2) = BAD",
            "battle(28, 11, true) = BAD; again(2) = UNKNOWN; again(1) = LATE");
    }

    private static void refusedActs() {
        Script.sentence("What is refused changes nothing.");
        String[] refused = {"put(3, 0) = UNKNOWN", "put(0, 3) = UNKNOWN", "put(1, 0) = LATE", "put(2, 0) = LATE", "march(3, 1) = UNKNOWN",
            "march(0, 0) = BAD", "march(0, 10) = BAD", "march(0, 9) = LATE", "claim(3, 0) = UNKNOWN", "claim(0, 3) = UNKNOWN", "claim(2, 1) = LATE",
            "claim(0, 2) = LATE", "claim(1, 1) = LATE", "slit(3) = UNKNOWN", "slit(1) = LATE", "fall(3) = UNKNOWN", "fall(2) = LATE"};
        for (String each : refused) {
            Script.on(TEXT, LIVED, each, "about(2) = 2; about(3) = 3; about(4) = 3; about(5) = 4; about(7) = 17",
                "about(9) = 5; about(10) = 2; seed(-77) = -77");
        }
        Script.on(TEXT, LIVED, "5* undo(); undo() = LATE; about(2) = 0; about(3) = 5; undo() = LATE; again(0) = 1");
    }

    private static void refusedWhenFull() {
        Script.sentence("What is refused changes nothing.");
        // The row of acts is full: a refused act must not make the first one be forgotten.
        Script.on("BG0M90" + Script.times(9, "P00"), "14* day(); put(0, 0) = FULL; put(0, 1) = UNKNOWN; march(0, 0) = BAD",
            "claim(1, 0) = UNKNOWN; slit(1) = UNKNOWN; fall(1) = UNKNOWN",
            "about(9) = 14; 13* undo(); undo() = 0; about(2) = 0; man(0, 1) = 9; undo() = LATE");
        Script.on("BG0M90P00", "6* feel(0, 0, 1, 1); feel(0, 0, 1, 0) = FULL; which(0) = 31; about(10) = 6");
        Script.onNew("59* write(66); write(71) = 60; write(88) = FULL; fault() = 1; about(11) = 60");
    }

    private static void refusedOthers() {
        Script.sentence("What is refused changes nothing.");
        Script.on(TEXT, LIVED, "write(-1) = BAD; write(256) = BAD; about(11) = 32; fault() = 31; regiment() = LATE",
            "again(1) = LATE; again(2) = UNKNOWN; keep(2) = UNKNOWN; keep(-1) = UNKNOWN",
            "feel(3, 0, 1, 1) = UNKNOWN; feel(0, 0, 10, 1) = BAD; feel(0, 0, 1, 2) = BAD; years(0) = BAD; years(31) = BAD",
            "about(12) = BAD; bag(0, 5) = BAD; man(0, 6) = BAD",
            "later(0, 41, 0) = BAD; holds(0, 41) = BAD; nth(0, 9) = BAD; waits(3, 0) = UNKNOWN; route(21, 0) = BAD",
            "judge(5, 0) = BAD; share(3, true) = UNKNOWN",
            "which(2) = BAD; rests(0, 0, 0, 0) = BAD; battle(28, 0, true) = BAD; about(9) = 5; again(0) = 1");
        // What was refused of a slot leaves what is kept in it.
        Script.on(TEXT, "keep(1) = 0; tell(X); regiment() = LATE; day() = 1; again(1) = 0; about(3) = 5");
    }

    private static void askingChangesNothing() {
        Script.sentence("In what follows nothing is changed.");
        String[] asked = {"later(0, 40, 0) = 2", "later(1, 40, 1) = 6", "holds(1, 40) = 0", "nth(0, 0) = 1", "waits(0, 0) = 2", "route(3, 0) = 2",
            "route(3, 1) = 201", "judge(4, 400402500000) = NONE", "judge(4, 100300200201) = 2", "share(0, true) = 0", "which(0) = 10", "which(1) = 10",
            "rests(0, 1, 0, 0) = 1", "battle(3, 5, false) = 4", "years(0) = BAD", "fault() = 31", "bag(0, 4) = 3", "man(0, 4) = 2"};
        for (String each : asked) {
            Script.on(TEXT, LIVED, each, "about(2) = 2; about(3) = 3; about(4) = 3; about(5) = 4; about(7) = 17",
                "about(8) = 0; about(9) = 5; seed(-77) = -77");
        }
        Script.on(TEXT, LIVED, "years(30); about(2) = 2; about(3) = 3; about(4) = 3; about(5) = 4; about(7) = 17",
            "about(8) = 0; about(9) = 5; about(10) = 2; again(0) = 1");
    }

    private static void askingOfAFullRegiment() {
        Script.sentence("In what follows nothing is changed.");
        // Three full bags, so that a breath too many would be seen at once.
        Script.on("BG0G1G2M90M90M90", "9* put(0, 0); 9* put(1, 1); 9* put(2, 2); judge(1, 100) = 0; years(30)",
            "holds(2, 40) = 0; route(20, 0) = 3; battle(27, 10, true) = 1",
            "rests(0, 1, 0, 0) = 2; about(3) = 27; about(7) = 0; bag(0, 1) = 9; bag(1, 1) = 9; bag(2, 1) = 9; put(0, 0) = LATE");
    }

    private static void pairsAtRest() {
        Script.sentence("pairs in which neither has more by another choice alone: how many; the first one (10 times the one and the other); NONE.");
        // One breath each, and so few that nobody plays: both claim. With 3 both leave it or both claim. With 4 one of them claims.
        Script.on("BG0G0G0M90M90", "put(0, 0); put(1, 0); rests(0, 1, 0, 0) = 1; rests(0, 1, 0, 1) = 11; put(0, 0)",
            "rests(0, 1, 0, 0) = 2; rests(0, 1, 0, 1) = 0",
            "put(1, 0); rests(0, 1, 0, 0) = 2; rests(0, 1, 0, 1) = 1; put(1, 0); rests(0, 1, 0, 0) = 1; rests(0, 1, 0, 1) = 11");
        // Nobody's choice is of any weight: all four are at rest, and the first one is told as 0, which is not NONE.
        Script.on("BG0G3M00M00", "rests(0, 1, 0, 0) = 4; rests(0, 1, 0, 1) = 0; rests(1, 0, 1, 0) = 4; rests(1, 0, 1, 1) = 0");
    }
}
