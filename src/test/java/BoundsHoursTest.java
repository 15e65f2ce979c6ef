/** Sentences on AN HOUR, on what is AHEAD, and promises 14 to 22: edges, what lies outside, and refused calls. */
public final class BoundsHoursTest {
    private static final Boundaries B = new Boundaries("bounds of hours");
    private static final String RICH = Boundaries.RICH;
    private static final String LATE = Boundaries.LATE;
    private static final String NEW = Boundaries.NEW;
    private static final String TO_9999 = "; 41 x hours(240); hours(159); count(1) = 9999; ";

    public static void main(String[] args) throws Exception {
        takes();
        owes();
        sails();
        rows();
        turns();
        ahead();
        aheadOfPrices();
        leeAndWho();
        voyages();
        looseHours();
        hours();
        loose();
        seed();
        then();
        income();
        dearest();
        lee();
        who();
        voyage();
        B.end("Part 3", "Promise 14", "Promise 15", "Promise 16", "Promise 17", "Promise 18", "Promise 19", "Promise 20", "Promise 21",
            "Promise 22");
    }

    // ---- Part 3

    private static void takes() {
        B.test("Part 3", "AN HOUR goes by: (1) all BOATS take, as told; USED is more.",
            "boat(10, 0); boat(10, 1); boat(60, 6); boat(0, 12); hours(1);"
                + "boatIs(0, 6) = 5; boatIs(1, 6) = 2; boatIs(2, 6) = 3; boatIs(3, 6) = 0; count(5) = 10",
            "boat(10, 1); boat(10, 0); hours(1); boatIs(0, 6) = 2; boatIs(1, 6) = 5; boatIs(0, 2) = 1; boatIs(1, 2) = 1;"
                + "hours(1); boatIs(0, 6) = 7; boatIs(1, 6) = 7",
            "boat(60, 0); set(0, 7, 1); hours(2); boatIs(0, 6) = 6", "boat(60, 0); set(0, 4, 2); hours(2); boatIs(0, 6) = 0",
            "boat(60, 0); wind(0, 3); hours(1); boatIs(0, 6) = 0",
            "8 x boat(41, 0); wind(0, 403); hours(1); boatIs(7, 6) = 1; count(5) = 8");
    }

    private static void owes() {
        B.test("Part 3", "(2) by numbers each BOAT without a GRANT that took something OWES more by its BILL.",
            "boat(10, 0); law(1, '7'); wind(0, 13); wind(1, 23); hours(1) = 0; hours(1) = 7; boatIs(0, 6) = 1",
            "boat(0, 0); boat(20, 6); law(1, '7'); hours(1) = 1; boatIs(0, 5) = 0; boatIs(1, 5) = 1",
            "boat(60, 0); set(0, 7, 1); law(1, '7'); hours(1) = 0; set(0, 7, 0); hours(1) = 7",
            "boat(60, 0); set(0, 4, 0); law(1, '7'); hours(1) = 0", "boat(60, 0); law(1, '0-7'); hours(1) = -7; hours(1) = -14",
            "boat(10, 0); boat(60, 0); boat(39, 0); law(1, 't'); hours(1) = 10; boatIs(0, 5) = 5; boatIs(1, 5) = 1; boatIs(2, 5) = 4",
            "boat(39, 0); boat(10, 1); law(1, '7'); hours(1) = 7; boatIs(0, 5) = 7; boatIs(1, 5) = 0");
        B.test("Part 3", "If KNOTS is 0, each LICENSED one (FURLED, too) is owed m coins (OWES less; with a GRANT, too).",
            "boat(49, 0); wind(0, 3); hours(1) = -9; boatIs(0, 5) = -9; hours(1) = 6",
            "boat(49, 0); wind(0, 0); wind(1, 1); hours(2) = -18", "boat(49, 0); wind(0, 13); hours(1) = 0",
            "boat(40, 0); wind(0, 3); hours(1) = 0", "boat(41, 0); wind(0, 3); hours(1) = -1",
            "boat(49, 0); set(0, 4, 0); wind(0, 3); boatIs(0, 9) = 1; hours(1) = -9",
            "boat(49, 0); set(0, 7, 1); wind(0, 3); hours(1) = -9", "boat(49, 0); set(0, 4, 0); wind(0, 13); hours(1) = 0",
            "boat(39, 0); boat(49, 1); set(0, 7, 1); hours(1) = 0; boatIs(1, 5) = 0",
            "boat(9, 0); boat(19, 0); boat(29, 6); boat(39, 0); boat(59, 12); boat(69, 18); wind(0, 3); hours(1) = 2; "
                + "boatIs(0, 5) = 0; boatIs(1, 5) = 0; boatIs(3, 5) = 0; boatIs(5, 5) = 0",
            "8 x boat(49, 0); wind(0, 3); hours(1) = -72; boatIs(7, 5) = -9");
    }

    /** A BOAT in CELL 7 an HOUR later: in which CELL it is. */
    private static String goes(int km, int kw, int head, int cell) {
        return "boat(" + km + ", 7); wind(0, " + kw + "); set(0, 3, " + head + "); hours(1);"
            + "boatIs(0, 2) = " + cell + "; boatIs(0, 3) = " + head;
    }

    private static void sails() {
        B.test("Part 3", "(3) by numbers each BOAT moves a CELL to its HEAD, if there is one:",
            "boat(20, 0); hours(1); boatIs(0, 2) = 1; hours(1); boatIs(0, 2) = 2; hours(3); boatIs(0, 2) = 5",
            "boat(20, 8); boat(20, 9); set(1, 3, 3); hours(1); boatIs(0, 2) = 9; boatIs(1, 2) = 8",
            "8 x boat(20, 8); hours(1); boatIs(7, 2) = 9", goes(20, 103, 0, 1), goes(20, 103, 1, 8), goes(20, 103, 2, 13),
            goes(20, 103, 3, 6));
        int[] next = {1, 8, 13, 6};
        String[] runs = new String[16];
        for (int i = 0; i < 16; i++) {
            runs[i] = goes(10, 100 + i / 4, i % 4, i / 4 == i % 4 ? 7 : next[i % 4]);
        }
        String sentence = "a SAILER (also one under it) that took 3 or more, if its HEAD isn't the WAY out of which the WIND comes;";
        B.test("Part 3", sentence, runs);
        B.test("Part 3", sentence,
            goes(10, 53, 1, 7), goes(10, 63, 1, 8), goes(30, 53, 1, 7), goes(30, 63, 1, 8), goes(31, 33, 1, 7), goes(32, 33, 1, 8),
            goes(39, 23, 1, 7), goes(39, 33, 1, 8), goes(42, 403, 1, 7), goes(43, 403, 1, 8), goes(49, 53, 1, 7),
            goes(49, 63, 1, 8), goes(39, 103, 3, 7), goes(49, 103, 3, 7), goes(39, 101, 3, 6), goes(49, 101, 3, 6),
            goes(10, 3, 1, 7), "boat(10, 7); set(0, 4, 0); hours(1); boatIs(0, 2) = 7",
            "boat(10, 7); set(0, 7, 1); hours(1); boatIs(0, 2) = 8",
            "boat(10, 7); boat(10, 7); boat(10, 7); wind(0, 123); hours(1); boatIs(0, 2) = 8; boatIs(1, 2) = 8; boatIs(2, 2) = 7");
    }

    private static void rows() {
        B.test("Part 3", "a ROWER (also one under it) always, and OWES 1 more for bread (with a GRANT, too; also if it turns);",
            goes(20, 3, 1, 8) + "; boatIs(0, 5) = 1", goes(20, 403, 3, 6) + "; boatIs(0, 5) = 1",
            goes(50, 3, 1, 8) + "; boatIs(0, 5) = 1", goes(50, 33, 3, 6) + "; boatIs(0, 5) = 1",
            goes(50, 43, 3, 6) + "; boatIs(0, 5) = 4", "boat(20, 7); set(0, 4, 0); hours(1) = 1; boatIs(0, 2) = 8",
            "boat(50, 7); set(0, 4, 0); hours(1) = 1; boatIs(0, 2) = 8",
            "boat(20, 7); set(0, 7, 1); hours(1) = 1; boatIs(0, 2) = 8",
            "boat(50, 7); set(0, 7, 1); hours(1) = 1; boatIs(0, 2) = 8; boatIs(0, 6) = 2",
            "boat(20, 11); hours(1) = 1; boatIs(0, 2) = 11; boatIs(0, 3) = 3",
            "boat(20, 0); hours(240) = 240; then(240, 0, 5) = 480",
            "boat(50, 0); law(1, '0-9999'); hours(101) = -999998; hours(1) = -999998; boatIs(0, 5) = -999998",
            "boat(50, 0); law(1, '9999'); hours(101) = 999999");
        B.test("Part 3", "a BOAT, a MILL never.",
            goes(0, 403, 1, 7), goes(0, 3, 1, 7), goes(60, 403, 1, 7), goes(69, 401, 1, 7) + "; boatIs(0, 6) = 13",
            "law(0, 'b'); " + goes(60, 403, 1, 7) + "; boatIs(0, 6) = 40",
            "boat(60, 11); boat(0, 11); hours(1); boatIs(0, 3) = 1; boatIs(1, 3) = 1; boatIs(0, 2) = 11; boatIs(1, 2) = 11; "
                + "boatIs(1, 5) = 0");
    }

    /** A BOAT that is to turn: its HEAD behind an HOUR, and the CELL in which it is behind another one. */
    private static String turn(int km, int kw, int cell, int head, int turned, int later) {
        return "boat(" + km + ", " + cell + "); wind(0, " + kw + "); wind(1, " + kw + "); set(0, 3, " + head + "); hours(1);"
            + "boatIs(0, 2) = " + cell + "; boatIs(0, 3) = " + turned + "; hours(1);"
            + "boatIs(0, 2) = " + later + "; boatIs(0, 3) = " + turned;
    }

    private static void turns() {
        B.test("Part 3", "One that moves and would leave THE SEA turns its HEAD about instead (0 and 2, 1 and 3).",
            turn(20, 103, 3, 0, 2, 9), turn(20, 103, 11, 1, 3, 10), turn(20, 103, 20, 2, 0, 14), turn(20, 103, 12, 3, 1, 13),
            turn(20, 3, 0, 0, 2, 6), turn(20, 3, 0, 3, 1, 1), turn(20, 3, 5, 0, 2, 11), turn(20, 3, 5, 1, 3, 4),
            turn(20, 3, 18, 2, 0, 12), turn(20, 3, 18, 3, 1, 19), turn(20, 3, 23, 1, 3, 22), turn(20, 3, 23, 2, 0, 17),
            turn(50, 3, 17, 1, 3, 16), turn(50, 3, 6, 3, 1, 7), turn(10, 103, 3, 0, 2, 9), turn(10, 103, 20, 2, 0, 14),
            turn(10, 102, 11, 1, 3, 10), turn(10, 102, 12, 3, 1, 13), turn(10, 103, 11, 1, 3, 11), turn(10, 101, 12, 3, 1, 12),
            turn(10, 102, 3, 0, 2, 3), turn(10, 100, 20, 2, 0, 20), turn(39, 103, 3, 0, 2, 9), turn(49, 103, 20, 2, 0, 14),
            turn(10, 53, 11, 1, 1, 11), turn(10, 103, 6, 3, 3, 6), turn(10, 100, 3, 0, 0, 3), turn(0, 103, 11, 1, 1, 11),
            turn(60, 403, 11, 1, 1, 11));
        B.test("Part 3", "(4) HOUR is 1 more.", "hours(1); count(1) = 1; hours(1); count(1) = 2; hours(240); count(1) = 242",
            "loose(1); count(1) = 1; loose(240); count(1) = 241");
    }

    private static void ahead() {
        B.test("Part 3", "AHEAD by n (0 .. 240) HOURS: as they would go by (beyond 9999, too).",
            "boat(60, 0); then(0, 0, 6) = 0; then(1, 0, 6) = 3; then(240, 0, 6) = 720; then(241, 0, 6) = BEYOND; "
                + "then(-1, 0, 6) = BEYOND; count(1) = 0",
            "boat(60, 0); wind(0, 403)" + TO_9999 + "boatIs(0, 6) = " + (3 * 9999 + 10 * 417) + "; then(240, 0, 6) = "
                + (3 * 10239 + 10 * 427) + "; then(9, 0, 8) = 13; then(8, 0, 8) = 3; income(1) = 9; income(240) = "
                + (9 * 230 + 13 * 10) + "; dearest(0, 48) = 99; count(1) = 9999",
            "boat(20, 0)" + TO_9999
                + "boatIs(0, 2) = 3; boatIs(0, 3) = 1; then(2, 0, 2) = 5; then(3, 0, 2) = 5; then(3, 0, 3) = 3; "
                + "then(240, 0, 2) = 3",
            "wind(15, 3); wind(16, 103); price(0, 0)" + TO_9999 + "voyage(0, 1, 1) = 2; voyage(0, 1, 2) = 0; voyage(0, 5, 24) = 0");
        B.test("Part 3", "INCOME by n: what all OWE AHEAD by n, if bread cost nothing, less what they OWE now.",
            "boat(20, 0); income(240) = 0; then(240, 0, 5) = 240; hours(5) = 5; income(0) = 0; income(3) = 0",
            "boat(50, 0); income(1) = 6; hours(1) = 7; income(1) = 6; income(2) = 12",
            "boat(60, 0); income(0) = 0; income(1) = 9; income(240) = 2160; hours(240) = 2160",
            "boat(49, 0); wind(0, 3); income(1) = -9; wind(1, 3); income(2) = -18", "boat(60, 0); set(0, 7, 1); income(240) = 0",
            "boat(50, 0); law(1, '9999'); hours(101) = 999999; income(1) = 0",
            "boat(50, 0); law(1, '0-9999'); hours(101) = -999998; income(1) = -1; income(240) = -1",
            "boat(60, 0); boat(60, 6); hours(1); pay(0, 9); income(1) = 18");
    }

    private static void aheadOfPrices() {
        StringBuilder calm = new StringBuilder();
        for (int hour = 0; hour < 23; hour++) {
            calm.append("wind(" + hour + ", 3); ");
        }
        B.test("Part 3",
            "DEAREST of a QUARTER by n (1 .. 48): the PRICE of it (0 .. 99) by which INCOME by n is greatest; "
                + "of several the least.",
            "dearest(0, 0) = BEYOND; dearest(0, 1) = 0; dearest(0, 48) = 0; dearest(0, 49) = BEYOND",
            calm + "boat(10, 0); set(0, 3, 2); set(0, 4, 60); dearest(0, 23) = 0; dearest(0, 24) = 60; dearest(1, 47) = 0; "
                + "dearest(1, 48) = 60; dearest(2, 48) = 0",
            "boat(60, 0); dearest(0, 1) = 99; count(10) = 3; set(0, 4, 98); dearest(0, 1) = 98; set(0, 4, 0); "
                + "dearest(0, 1) = 0; count(10) = 3",
            "boat(60, 0); law(1, '0-p'); dearest(0, 1) = 0", "boat(60, 0); law(1, 'p/50'); dearest(0, 1) = 50; dearest(0, 48) = 50",
            "boat(60, 0); law(1, 'p/99'); dearest(0, 1) = 99", "boat(60, 0); law(1, 'p=1'); dearest(0, 1) = 1",
            "boat(60, 0); law(1, '0-9'); dearest(0, 1) = 0", "boat(60, 0); law(1, '0-9'); set(0, 4, 98); dearest(0, 1) = 99",
            "boat(60, 0); law(1, '0-9'); set(0, 4, 97); dearest(0, 1) = 98",
            "boat(60, 0); law(1, '(0-p)*9'); set(0, 4, 50); dearest(0, 1) = 0",
            "boat(60, 23); dearest(3, 1) = 99; dearest(2, 1) = 0; dearest(0, 1) = 0",
            "boat(60, 0); set(0, 7, 1); dearest(0, 1) = 0", "boat(60, 0); law(1, '9999'); hours(101); dearest(0, 1) = 0",
            "boat(20, 0); dearest(0, 48) = 0");
    }

    private static void leeAndWho() {
        B.test("Part 3", "LEE of two BOATS: how many knots more the one would take now, if the other one weren't there.",
            "wind(0, 403); boat(10, 1); boat(10, 0); boat(10, 7); lee(0, 1) = 10; lee(1, 0) = 0; lee(2, 0) = 0; lee(0, 2) = 0",
            "wind(0, 403); boat(10, 1); boat(10, 1); lee(0, 1) = 0; lee(1, 0) = 10",
            "boat(39, 0); boat(39, 1); lee(1, 0) = 10; set(0, 4, 0); lee(1, 0) = 0",
            "boat(10, 0); boat(60, 1); law(0, '10-b'); lee(1, 0) = -5", "boat(10, 0); boat(10, 1); set(1, 4, 0); lee(1, 0) = 0",
            "boat(0, 0); boat(10, 1); lee(1, 0) = 0", "wind(0, 3); boat(10, 0); boat(10, 1); lee(1, 0) = 0",
            "wind(0, 101); boat(10, 0); boat(10, 1); lee(1, 0) = 0; lee(0, 1) = 3",
            "wind(0, 403); 8 x boat(10, 0); lee(7, 0) = 0; lee(5, 0) = 0; lee(4, 0) = 1; lee(1, 0) = 10; lee(7, 6) = 0",
            "wind(0, 403); boat(10, 0); boat(10, 1); boat(10, 2); lee(2, 0) = 5; lee(2, 1) = 5");
        B.test("Part 3",
            "MISSING: a line (0 .. 5 columns, or 0 .. 3 rows, as the WIND comes now) behind which so many KNOTS are GONE now:",
            "who(0, 10, 0) = 1; who(3, 10, 0) = 1; who(4, 10, 0) = BEYOND; who(-1, 10, 0) = BEYOND",
            "wind(0, 101); who(3, 10, 0) = 1; who(4, 10, 0) = BEYOND",
            "wind(0, 100); who(0, 10, 0) = 1; who(5, 10, 0) = 1; who(6, 10, 0) = BEYOND; who(-1, 10, 0) = BEYOND",
            "wind(0, 102); who(5, 10, 0) = 1; who(6, 10, 0) = BEYOND",
            "wind(1, 0); boat(10, 11); who(1, 5, 1) = 1; who(5, 10, 0) = BEYOND; hours(1); who(5, 0, 0) = 2",
            "wind(0, 3); who(0, 0, 0) = 1; who(0, 40, 0) = 0; wind(0, 403); who(0, 40, 0) = 1; who(0, 0, 0) = 0; "
                + "who(0, 41, 0) = BEYOND; who(0, -1, 0) = BEYOND");
        B.test("Part 3",
            "WHO: sets of BOATS of that line (also of those that take 0; "
                + "none) which, taking alone (all others being furled), leave just so many:",
            "who(0, 10, 0) = 1; who(0, 10, 1) = 0; who(0, 10, 2) = 0; who(0, 10, 3) = 0",
            "8 x boat(0, 0); who(0, 10, 0) = 256; who(0, 10, 1) = 0; who(0, 10, 2) = 0; who(0, 10, 3) = 255",
            "boat(10, 0); boat(10, 6); who(0, 10, 0) = 1; who(0, 5, 1) = 1; who(1, 5, 1) = 2; who(1, 5, 2) = 2; "
                + "who(1, 5, 3) = 2; who(2, 10, 0) = 1",
            "boat(10, 0); boat(39, 1); who(0, 0, 0) = 2; who(0, 0, 1) = 2; who(0, 0, 2) = 2; who(0, 0, 3) = 3; "
                + "who(0, 5, 0) = 1; who(0, 5, 1) = 1; who(0, 10, 1) = 0",
            "boat(10, 0); set(0, 4, 0); who(0, 10, 0) = 2; who(0, 10, 3) = 1; who(0, 10, 2) = 0; who(0, 5, 0) = 0",
            "wind(0, 3); boat(10, 0); who(0, 0, 0) = 2; who(0, 0, 3) = 1");
        B.test("Part 3", "how many, the least as bits, SURELY (in all), MAYBE (in any).",
            "wind(0, 403); 8 x boat(10, 0); who(0, 40, 0) = 1; who(0, 20, 0) = 8; who(0, 10, 0) = 28; who(0, 5, 0) = 56; "
                + "who(0, 3, 0) = 70; who(0, 2, 0) = 56;"
                + "who(0, 1, 0) = 37; who(0, 0, 0) = 0; who(0, 1, 1) = 63; who(0, 1, 2) = 0; who(0, 1, 3) = 255; "
                + "who(0, 40, 3) = 0; who(0, 20, 1) = 1",
            "wind(0, 403); 7 x boat(10, 6); boat(10, 0); who(0, 20, 0) = 1; who(0, 20, 1) = 128; who(0, 20, 2) = 128; "
                + "who(0, 20, 3) = 128",
            "wind(0, 163); boat(0, 3); boat(10, 1); boat(10, 6); boat(10, 2); who(0, 8, 0) = 4; who(0, 8, 1) = 2; "
                + "who(0, 8, 2) = 0; who(0, 8, 3) = 11;"
                + "who(0, 4, 0) = 2; who(0, 4, 1) = 10; who(0, 4, 2) = 10; who(0, 4, 3) = 11; who(0, 16, 0) = 2; "
                + "who(0, 16, 1) = 0; who(0, 16, 3) = 1",
            "wind(0, 203); boat(42, 0); boat(42, 1); boat(44, 2); who(0, 16, 0) = 2; who(0, 16, 1) = 3; who(0, 16, 2) = 0; "
                + "who(0, 16, 3) = 7; who(0, 14, 1) = 5; who(0, 14, 2) = 4; who(0, 12, 1) = 7; who(0, 18, 0) = 2; who(0, 18, 1) = 1",
            "who(0, 9, 0) = 0; who(0, 9, 1) = NONE; who(0, 9, 2) = NONE; who(0, 9, 3) = 0");
    }

    private static void voyages() {
        StringBuilder calm = new StringBuilder("price(0, 0); ");
        for (int hour = 0; hour < 23; hour++) {
            calm.append("wind(" + hour + ", 53); ");
        }
        B.test("Part 3", "A VOYAGE from a CELL to another one within n (0 .. 24) HOURS from now on:",
            "voyage(0, 0, 0) = 0; voyage(23, 23, 24) = 0; voyage(0, 1, 0) = NONE; voyage(0, 1, 1) = 2; "
                + "voyage(0, 1, 24) = 2; voyage(0, 1, 25) = BEYOND; voyage(0, 1, -1) = BEYOND",
            calm + "voyage(0, 1, 23) = 2; voyage(0, 1, 24) = 0; voyage(0, 2, 24) = 2",
            calm + "hours(1); voyage(0, 1, 22) = 2; voyage(0, 1, 23) = 0; voyage(0, 2, 24) = 2",
            "wind(23, 3); wind(0, 3); wind(1, 63); price(0, 0); hours(23); voyage(0, 1, 2) = 2; voyage(0, 1, 3) = 0",
            "voyage(0, 23, 8) = 16; voyage(0, 23, 7) = NONE; voyage(5, 18, 8) = 16; voyage(18, 5, 7) = NONE");
        B.test("Part 3",
            "each HOUR by SAIL to a CELL next to it (only if KNOTS are 6 or more, never to the WAY out of which the WIND comes; "
                + "" + "for 3 knots at the PRICE of the CELL it leaves),",
            "price(0, 0); wind(0, 53); voyage(0, 1, 1) = 2; wind(0, 63); voyage(0, 1, 1) = 0; wind(0, 403); "
                + "voyage(0, 1, 1) = 0; wind(0, 3); voyage(0, 1, 1) = 2",
            "price(1, 0); wind(0, 100); voyage(7, 1, 1) = 2; voyage(7, 8, 1) = 0; voyage(7, 13, 1) = 0; voyage(7, 6, 1) = 0",
            "price(1, 0); wind(0, 101); voyage(7, 1, 1) = 0; voyage(7, 8, 1) = 2; voyage(7, 13, 1) = 0; voyage(7, 6, 1) = 0",
            "price(1, 0); wind(0, 102); voyage(7, 1, 1) = 0; voyage(7, 8, 1) = 0; voyage(7, 13, 1) = 2; voyage(7, 6, 1) = 0",
            "price(1, 0); wind(0, 103); voyage(7, 1, 1) = 0; voyage(7, 8, 1) = 0; voyage(7, 13, 1) = 0; voyage(7, 6, 1) = 2",
            "price(0, 0); voyage(0, 6, 1) = 0; voyage(6, 0, 1) = 2; voyage(12, 18, 1) = 2",
            "price(0, 1); voyage(0, 1, 1) = 2; price(0, 0); voyage(0, 1, 1) = 0",
            "price(0, 0); voyage(0, 7, 1) = NONE; voyage(0, 2, 1) = NONE; voyage(0, 5, 1) = NONE; voyage(0, 18, 1) = NONE; "
                + "voyage(5, 6, 1) = NONE",
            "price(1, 0); voyage(0, 5, 5) = 10; voyage(0, 5, 6) = 10; voyage(0, 5, 7) = 2; voyage(6, 11, 5) = 0; "
                + "voyage(11, 6, 24) = 10");
        B.test("Part 3", "by OAR to one next to it (2 coins), or it waits (nothing): the fewest coins; no BOATS are looked at.",
            "voyage(7, 1, 1) = 2; voyage(7, 8, 1) = 2; voyage(7, 13, 1) = 2; voyage(7, 6, 1) = 2; voyage(7, 7, 1) = 0; "
                + "voyage(7, 14, 1) = NONE; voyage(7, 14, 2) = 4",
            "wind(0, 3); voyage(7, 6, 1) = 2; voyage(5, 6, 1) = NONE; voyage(6, 5, 1) = NONE; voyage(0, 6, 1) = 2; "
                + "voyage(0, 5, 5) = 10; voyage(0, 5, 4) = NONE",
            "price(0, 0); wind(0, 3); voyage(0, 1, 1) = 2; voyage(0, 1, 2) = 0; voyage(0, 2, 2) = 2; voyage(0, 2, 3) = 0; "
                + "voyage(0, 0, 24) = 0",
            "price(0, 0); boat(39, 0); boat(60, 1); blows(1) = 0; voyage(0, 5, 5) = 0; set(1, 4, 0); voyage(1, 2, 1) = 0; "
                + "set(0, 7, 1); voyage(0, 1, 1) = 0",
            "wind(0, 0); price(0, 99); boat(10, 0); set(0, 7, 1); voyage(0, 1, 1) = 2");
    }

    /** A LOOSE HOUR behind a seed: KNOTS ahead of it and behind it, out of WAY 1. */
    private static String drawn(int seed, int knots, int later) {
        return "seed(" + seed + "); wind(0, " + (10 * knots + 1) + "); loose(1); wind(0, 3) = " + (10 * later + 1) + "; wind(1, 3) = 103";
    }

    private static void looseHours() {
        B.test("Part 3",
            "A LOOSE HOUR: ahead of it a draw: its rest by 7, less 3, is added to KNOTS of this HOUR of the day (0 .. 40; "
                + "it stays so).",
            drawn(85, 36, 39), drawn(85, 37, 40), drawn(85, 38, 40), drawn(85, 40, 40), drawn(85, 0, 3), drawn(243, 4, 1),
            drawn(243, 3, 0), drawn(243, 2, 0), drawn(243, 0, 0), drawn(243, 40, 37), drawn(16, 20, 17), drawn(41, 20, 17),
            drawn(0, 20, 23), drawn(26, 20, 23), drawn(1, 20, 22), "seed(85); wind(0, 93); boat(60, 0); loose(1) = 12",
            "seed(85); wind(0, 393); boat(60, 0); loose(1) = 13; boatIs(0, 6) = 13",
            "seed(85); wind(0, 3); boat(49, 0); loose(1) = 3; boatIs(0, 6) = 1",
            "seed(243); wind(0, 23); boat(49, 0); loose(1) = -9",
            "seed(85); loose(3); wind(0, 3) = 133; wind(1, 3) = 133; wind(2, 3) = 133; wind(3, 3) = 103",
            "seed(85); loose(1); hours(23); count(2) = 13; seed(85); loose(1); hours(23); count(2) = 16; count(3) = 3");
        B.test("Part 3", "DRAWS: z is told (1 at first); each makes it z * 1103515245 + 12345 (an int), and gives z >>> 8.",
            "count(9) = 1; loose(1); count(9) = 1103527590; loose(1); count(9) = -1770082073; loose(1); "
                + "count(9) = 662824084; wind(0, 3) = 123; wind(1, 3) = 73; wind(2, 3) = 103",
            "seed(0); loose(1); count(9) = 12345; wind(0, 3) = 133", "seed(41); loose(1); count(9) = -2000502866; wind(0, 3) = 73",
            "seed(26); loose(1); count(9) = -1373362357; wind(0, 3) = 133", "loose(24); count(9) = 675780521",
            "seed(85); loose(3); count(9) = 1355010040", "seed(243); loose(3); count(9) = -1637988434",
            "seed(MIN); loose(1); count(9) = " + (Integer.MIN_VALUE * 1103515245 + 12345),
            "seed(MAX); loose(1); count(9) = " + (Integer.MAX_VALUE * 1103515245 + 12345),
            "boat(60, 0); hours(5); then(5, 0, 5); income(5); dearest(0, 5); count(9) = 1");
    }

    // ---- Promises

    private static void hours() {
        B.test("Promise 14", "n (1 .. 240) HOURS: what all OWE together.",
            "hours(0) = BEYOND; hours(1) = 0; count(1) = 1; hours(240) = 0; count(1) = 241; hours(241) = BEYOND; "
                + "hours(-1) = BEYOND; count(1) = 241",
            "boat(60, 0); hours(1) = 9; hours(240) = 2169",
            "boat(60, 0); boat(20, 6); boat(49, 12); wind(0, 3); hours(1) = -8; hours(1) = 17; count(4) = 17",
            "8 x boat(20, 0); hours(240) = 1920");
        B.refused("Promise 14", "BEYOND.",
            RICH, "hours(0) = BEYOND", "hours(241) = BEYOND", "hours(-1) = BEYOND", "hours(MIN) = BEYOND", "hours(MAX) = BEYOND");
        B.refused("Promise 14", "STATE: HOUR would be above 9999.",
            LATE, "hours(1) = STATE", "hours(240) = STATE", "hours(0) = BEYOND", "hours(241) = BEYOND", "hours(MAX) = BEYOND");
        B.test("Promise 14", "STATE: HOUR would be above 9999.",
            "40 x hours(240); hours(159); count(1) = 9759; hours(240) = 0; count(1) = 9999; hours(1) = STATE; told(3) = 1",
            "40 x hours(240); hours(160); count(1) = 9760; hours(240) = STATE; count(1) = 9760; hours(239) = 0; "
                + "count(1) = 9999; hours(1) = STATE; count(1) = 9999",
            "boat(20, 0); 41 x hours(240); hours(158) = 9998; hours(2) = STATE; boatIs(0, 5) = 9998; hours(1) = 9999; "
                + "hours(1) = STATE; boatIs(0, 5) = 9999");
    }

    private static void loose() {
        B.test("Promise 15", "n (1 .. 240) LOOSE HOURS: likewise.",
            "loose(0) = BEYOND; loose(1) = 0; count(1) = 1; loose(240) = 0; count(1) = 241; loose(241) = BEYOND; "
                + "loose(-1) = BEYOND; count(1) = 241",
            "boat(20, 0); loose(240) = 240", "seed(85); boat(60, 0); boat(20, 6); loose(1) = 13; count(4) = 13");
        B.refused("Promise 15", "BEYOND.",
            RICH, "loose(0) = BEYOND", "loose(241) = BEYOND", "loose(-1) = BEYOND", "loose(MIN) = BEYOND", "loose(MAX) = BEYOND");
        B.refused("Promise 15", "STATE.",
            LATE, "loose(1) = STATE", "loose(240) = STATE", "loose(0) = BEYOND", "loose(241) = BEYOND", "loose(MAX) = BEYOND");
        B.test("Promise 15", "STATE.",
            "40 x hours(240); hours(159); loose(240) = 0; count(1) = 9999; loose(1) = STATE; told(3) = 1",
            "40 x hours(240); hours(160); loose(240) = STATE; count(9) = 1; wind(16, 103) = 103; loose(239) = 0; "
                + "count(1) = 9999; loose(1) = STATE");
    }

    private static void seed() {
        B.test("Promise 16", "z becomes v: what it was (any number).",
            "seed(0) = 1; seed(-1) = 0; seed(MIN) = -1; seed(MAX) = MIN; seed(1) = MAX; count(9) = 1",
            "seed(BEYOND) = 1; seed(NONE) = BEYOND; seed(PARTED) = NONE; seed(1) = PARTED; told(1) = 0; told(2) = 0; told(6) = 0",
            "seed(5); seed(5) = 5; loose(1); seed(0) = " + (5 * 1103515245 + 12345));
    }

    private static void then() {
        B.test("Promise 17", "AHEAD by n: of a BOAT what (0 .. 9) as in boatIs().",
            "boat(53, 4); then(0, 0, 0) = 5; then(0, 0, 1) = 3; then(0, 0, 2) = 4; then(0, 0, 3) = 1; then(0, 0, 4) = 99; "
                + "then(0, 0, 5) = 0; then(0, 0, 6) = 0; then(0, 0, 7) = 0; then(0, 0, 8) = 2; then(0, 0, 9) = 0",
            "boat(53, 4); wind(2, 403); then(2, 0, 0) = 5; then(2, 0, 1) = 3; then(2, 0, 2) = 5; then(2, 0, 3) = 3; "
                + "then(2, 0, 4) = 99; then(2, 0, 5) = 14; then(2, 0, 6) = 4; then(2, 0, 7) = 0; then(2, 0, 8) = 10; "
                + "then(2, 0, 9) = 0",
            "boat(10, 0); set(0, 3, 2); set(0, 4, 5); set(0, 7, 0); price(1, 6); then(0, 0, 9) = 0; then(1, 0, 9) = 1; "
                + "then(1, 0, 8) = 0; then(1, 0, 2) = 6; then(240, 0, 2) = 6",
            "8 x boat(20, 0); then(240, 7, 5) = 240; then(240, 8, 5) = BEYOND");
        B.leaves("Promise 17", "AHEAD by n: of a BOAT what (0 .. 9) as in boatIs().",
            RICH, "then(0, 0, 8)", "then(1, 1, 5)", "then(240, 2, 2)", "then(240, 0, 9)");
        B.refused("Promise 17", "BEYOND.",
            RICH, "then(-1, 0, 0) = BEYOND", "then(241, 0, 0) = BEYOND", "then(0, -1, 0) = BEYOND", "then(0, 3, 0) = BEYOND",
            "then(0, 0, -1) = BEYOND", "then(0, 0, 10) = BEYOND", "then(240, 3, 9) = BEYOND", "then(240, 0, 10) = BEYOND");
        B.refused("Promise 17", "BEYOND.", RICH, Boundaries.farOutside("then(0, 0, 0)", "BEYOND", "BEYOND", "BEYOND"));
        B.refused("Promise 17", "BEYOND.", NEW, "then(0, 0, 0) = BEYOND");
    }

    private static void income() {
        B.test("Promise 18", "INCOME by n.",
            "income(0) = 0; income(240) = 0",
            "boat(60, 0); income(0) = 0; income(1) = 9; income(239) = 2151; income(240) = 2160; income(241) = BEYOND",
            "8 x boat(49, 0); wind(0, 3); income(1) = -72");
        B.leaves("Promise 18", "INCOME by n.", RICH, "income(0) = 0", "income(1)", "income(240)");
        B.refused("Promise 18", "BEYOND.",
            RICH, "income(-1) = BEYOND", "income(241) = BEYOND", "income(MIN) = BEYOND", "income(MAX) = BEYOND");
    }

    private static void dearest() {
        B.test("Promise 19", "DEAREST of a QUARTER by n.",
            "boat(60, 0); boat(60, 23); set(0, 4, 20); set(1, 4, 30); dearest(0, 1) = 20; dearest(3, 1) = 30; "
                + "dearest(1, 1) = 0; dearest(2, 48) = 0; dearest(3, 48) = 30",
            "boat(60, 0); boat(60, 1); set(0, 4, 40); set(1, 4, 66); dearest(0, 1) = 40; set(1, 4, 67); dearest(0, 1) = 67; "
                + "set(1, 4, 99); dearest(0, 1) = 99");
        B.leaves("Promise 19", "DEAREST of a QUARTER by n.", RICH, "dearest(0, 1)", "dearest(1, 48)", "dearest(2, 24)", "dearest(3, 48)");
        B.refused("Promise 19", "BEYOND.",
            RICH, "dearest(-1, 1) = BEYOND", "dearest(4, 1) = BEYOND", "dearest(0, 0) = BEYOND", "dearest(0, -1) = BEYOND",
            "dearest(0, 49) = BEYOND", "dearest(4, 49) = BEYOND");
        B.refused("Promise 19", "BEYOND.", RICH, Boundaries.farOutside("dearest(0, 1)", "BEYOND", "BEYOND"));
    }

    private static void lee() {
        B.test("Promise 20", "LEE: the one, the other one.",
            "boat(10, 0); boat(10, 1); lee(1, 0) = 3; lee(0, 1) = 0",
            "7 x boat(0, 6); boat(10, 0); set(0, 0, 1); set(0, 2, 1); lee(0, 7) = 3; lee(7, 0) = 0");
        B.leaves("Promise 20", "LEE: the one, the other one.", RICH, "lee(0, 1)", "lee(1, 0)", "lee(2, 0)");
        B.refused("Promise 20", "BEYOND: also one and the same.",
            RICH, "lee(0, 0) = BEYOND", "lee(2, 2) = BEYOND", "lee(-1, 0) = BEYOND", "lee(0, -1) = BEYOND", "lee(3, 0) = BEYOND",
            "lee(0, 3) = BEYOND", "lee(3, 3) = BEYOND", "lee(-1, -1) = BEYOND");
        B.refused("Promise 20", "BEYOND: also one and the same.", RICH, Boundaries.farOutside("lee(0, 1)", "BEYOND", "BEYOND"));
        B.refused("Promise 20", "BEYOND: also one and the same.", NEW, "lee(0, 1) = BEYOND", "lee(0, 0) = BEYOND");
        B.refused("Promise 20", "BEYOND: also one and the same.",
            "boat(10, 0)", "lee(0, 1) = BEYOND", "lee(1, 0) = BEYOND", "lee(0, 0) = BEYOND");
    }

    private static void who() {
        String sentence = "WHO: KNOTS GONE behind a line: what 0 how many sets, 1 the least (NONE: none), 2 SURELY (NONE), 3 MAYBE.";
        B.test("Promise 21", sentence,
            "boat(10, 0); boat(10, 1); who(0, 5, 0) = 2; who(0, 5, 1) = 1; who(0, 5, 2) = 0; who(0, 5, 3) = 3; "
                + "who(0, 3, 0) = 1; who(0, 3, 1) = 3; who(0, 3, 2) = 3; who(0, 3, 3) = 3",
            "boat(10, 0); who(0, 4, 0) = 0; who(0, 4, 3) = 0; told(2) = 0; who(0, 4, 1) = NONE; who(0, 4, 2) = NONE; told(2) = 2");
        B.leaves("Promise 21", sentence,
            RICH, "who(1, 22, 0)", "who(1, 22, 1)", "who(1, 22, 2)", "who(2, 0, 3)", "who(1, 40, 0) = 0", "who(1, 40, 3) = 0");
        B.refused("Promise 21", sentence,
            RICH, "who(1, 40, 1) = NONE", "who(1, 40, 2) = NONE", "who(0, 0, 1) = NONE", "who(0, 21, 2) = NONE");
        B.refused("Promise 21", "BEYOND: KNOTS 0 .. 40.",
            RICH, "who(0, -1, 0) = BEYOND", "who(0, 41, 0) = BEYOND", "who(-1, 0, 0) = BEYOND", "who(6, 0, 0) = BEYOND",
            "who(0, 0, -1) = BEYOND", "who(0, 0, 4) = BEYOND", "who(6, 40, 1) = BEYOND", "who(0, 41, 1) = BEYOND",
            "who(0, -1, 2) = BEYOND");
        B.refused("Promise 21", "BEYOND: KNOTS 0 .. 40.", RICH + "; wind(6, 221)", "who(4, 22, 0) = BEYOND", "who(5, 22, 0) = BEYOND");
        B.refused("Promise 21", "BEYOND: KNOTS 0 .. 40.", RICH, Boundaries.farOutside("who(0, 22, 0)", "BEYOND", "BEYOND", "BEYOND"));
        B.test("Promise 21", "BEYOND: KNOTS 0 .. 40.",
            "who(0, 0, 0) = 0; who(0, 40, 0) = 0; who(0, 41, 0) = BEYOND; who(0, -1, 0) = BEYOND");
    }

    private static void voyage() {
        B.test("Promise 22", "A VOYAGE: the fewest coins.",
            "voyage(0, 0, 0) = 0; voyage(0, 23, 24) = 16; voyage(23, 0, 24) = 16; price(0, 0); voyage(0, 23, 24) = 4; "
                + "voyage(0, 5, 24) = 0");
        B.leaves("Promise 22", "A VOYAGE: the fewest coins.", RICH, "voyage(0, 23, 24)", "voyage(23, 0, 8)", "voyage(7, 7, 0) = 0");
        B.refused("Promise 22", "BEYOND.",
            RICH, "voyage(-1, 0, 1) = BEYOND", "voyage(24, 0, 1) = BEYOND", "voyage(0, -1, 1) = BEYOND",
            "voyage(0, 24, 1) = BEYOND", "voyage(0, 1, -1) = BEYOND", "voyage(0, 1, 25) = BEYOND", "voyage(24, 24, 0) = BEYOND",
            "voyage(-1, -1, 0) = BEYOND", "voyage(0, 24, 0) = BEYOND");
        B.refused("Promise 22", "BEYOND.", RICH, Boundaries.farOutside("voyage(0, 1, 1)", "BEYOND", "BEYOND", "BEYOND"));
        B.refused("Promise 22", "NONE: not in so few HOURS.",
            RICH, "voyage(0, 1, 0) = NONE", "voyage(0, 23, 7) = NONE", "voyage(0, 7, 1) = NONE", "voyage(5, 6, 5) = NONE",
            "voyage(23, 0, 0) = NONE");
        B.test("Promise 22", "NONE: not in so few HOURS.",
            "voyage(0, 23, 7) = NONE; voyage(0, 23, 8) = 16; voyage(5, 6, 5) = NONE; voyage(5, 6, 6) = 12; told(2) = 2");
    }
}
