/** Sentences on ERRORS, on THE SEA, and promises 1 to 10: edges, what lies outside, and refused calls. */
public final class BoundsSeaTest {
    private static final Boundaries B = new Boundaries("bounds of the sea");
    private static final String RICH = Boundaries.RICH;
    private static final String CROWDED = Boundaries.CROWDED;
    private static final String NEW = Boundaries.NEW;

    public static void main(String[] args) throws Exception {
        calls();
        errors();
        orderOfErrors();
        errorsChangeNothing();
        cellsAndQuarters();
        windAndHour();
        boatsAndKinds();
        partsOfBoats();
        owesAndUsed();
        wants();
        furled();
        lines();
        newObject();
        wind();
        price();
        boat();
        boatIs();
        as();
        set();
        pay();
        blows();
        gone();
        B.end("What it is", "ERRORS", "Part 1", "Promise 1", "Promise 2", "Promise 3", "Promise 4", "Promise 5", "Promise 6",
            "Promise 7", "Promise 8", "Promise 9", "Promise 10");
    }

    private static void calls() {
        B.test("What it is", "An object is used for at most 512 calls after it has been made; what later calls answer is free.",
            "511 x told(7) = BEYOND; told(1) = 511",
            "511 x tell(7); count(7) = 24",
            "boat(60, 0) = 0; 41 x hours(240); hours(159); 468 x hours(1) = STATE; told(3) = 468");
    }

    // ---- ERRORS

    private static void errors() {
        B.test("ERRORS", "ERRORS are answers below -1000000000: LOW is -1000000000;",
            "seed(-1000000000) = 1; count(9) = -1000000000; seed(-1000000001) = -1000000000; count(9) = -1000000001;"
                + "seed(-1000000006) = -1000000001; seed(MIN) = -1000000006; count(9) = MIN;"
                + "told(1) = 0; told(2) = 0; told(3) = 0; told(4) = 0; told(5) = 0; told(6) = 0",
            "boat(0, 0) = 0; voice(0, 0, -1000000001) = -1000000001; voice(0, 0, -1000000006) = -1000000006; told(1) = 0; told(6) = 0");
        B.test("ERRORS", "LOW - 1 BEYOND,", "told(0) = -1000000001; told(1) = 1");
        B.test("ERRORS", "LOW - 2 NONE,", "body(0) = -1000000002; told(2) = 1");
        B.test("ERRORS", "LOW - 3 STATE,", "sheet(0, 8, -1) = -1000000003; told(3) = 1");
        B.test("ERRORS", "LOW - 4 FULL,", "24 x tell(0); tell(0) = -1000000004; told(4) = 1");
        B.test("ERRORS", "LOW - 5 KIND,", "boat(0, 0) = 0; as(0, 1) = -1000000005; told(5) = 1");
        B.test("ERRORS", "LOW - 6 PARTED.", "boat(0, 0) = 0; voice(0, 3, 1) = -1000000006; told(6) = 1");
        B.test("ERRORS", "Quotients are cut toward 0.",
            "boat(60, 0); law(1, '(0-7)/2') = 1; hours(1) = -3",
            "boat(60, 0); law(1, '7/(0-2)') = 1; hours(1) = -3",
            "boat(60, 0); law(1, '(0-1)/2') = 1; hours(1) = 0",
            "boat(60, 0); law(1, '(0-7)/(0-2)') = 1; hours(1) = 3",
            "boat(3, 0); voice(0, 3, 8) = 2; voice(0, 3, -8) = -2; voice(0, 3, 2) = 0; voice(0, 3, -2) = 0",
            "boat(40, 0); voice(0, 2, -1) = -6; voice(0, 2, 1) = -6; voice(0, 2, -3) = -8; voice(0, 2, 3) = -4",
            "boat(10, 0); wind(0, 93); boatIs(0, 8) = 4", "boat(50, 0); wind(0, 73); boatIs(0, 8) = 1",
            "boat(60, 0); wind(0, 83); boatIs(0, 8) = 2");
    }

    private static void orderOfErrors() {
        B.test("ERRORS", "Each act tells its ERRORS in the order in which they are asked;",
            "8 x boat(0, 0); boat(70, 0) = BEYOND; boat(0, 24) = BEYOND; boat(0, 0) = FULL",
            "boat(0, 0); as(1, 1) = BEYOND; as(0, 7) = BEYOND; as(0, 1) = KIND",
            "boat(0, 0); pay(1, 1) = BEYOND; pay(0, 0) = BEYOND; pay(0, 10000) = BEYOND; pay(0, 1) = STATE",
            "7 x feed(0, 8); feed(0, 4) = 60; feed(0, 0) = BEYOND; feed(0, 9) = BEYOND; feed(0, 1) = FULL",
            "41 x hours(240); hours(159); hours(0) = BEYOND; hours(241) = BEYOND; hours(1) = STATE",
            "41 x hours(240); hours(159); loose(0) = BEYOND; loose(241) = BEYOND; loose(1) = STATE",
            "who(4, 9, 1) = BEYOND; who(0, 41, 1) = BEYOND; who(0, 9, 4) = BEYOND; who(0, 9, 1) = NONE; who(0, 9, 2) = NONE",
            "voyage(24, 23, 0) = BEYOND; voyage(0, 24, 0) = BEYOND; voyage(0, 23, -1) = BEYOND; voyage(0, 23, 0) = NONE",
            "boat(0, 0); voice(1, 3, 1) = BEYOND; voice(0, 4, 1) = BEYOND; voice(0, 3, 1) = PARTED",
            "sheet(4, 8, -1) = BEYOND; sheet(0, 9, -1) = BEYOND; sheet(0, 8, -1) = STATE; sheet(0, 8, 25) = BEYOND",
            "put(4, -1, 0) = BEYOND; put(0, -1, 0) = NONE; sheet(0, 8, 1); put(0, -1, 0) = BEYOND",
            "move(0, -1, 4, 0, 0) = BEYOND; move(0, -1, 1, 0, 0) = NONE; sheet(0, 8, 1); move(0, -1, 1, 0, 0) = NONE;"
                + "sheet(1, 16, 1); move(0, -1, 1, 0, 0) = KIND; sheet(1, 8, 1); move(0, -1, 1, 0, 0) = BEYOND",
            "winds(4) = BEYOND; winds(3) = NONE", "judge(4) = BEYOND; judge(3) = NONE");
    }

    private static void errorsChangeNothing() {
        String[] beyond = {
            "wind(24, 103) = BEYOND", "price(4, 1) = BEYOND", "boat(70, 0) = BEYOND", "boatIs(3, 0) = BEYOND", "as(3, 0) = BEYOND",
            "set(3, 0, 0) = BEYOND", "pay(3, 1) = BEYOND", "blows(24) = BEYOND", "gone(6) = BEYOND", "feed(0, 9) = BEYOND",
            "text(2) = BEYOND", "untell(2) = BEYOND", "hours(241) = BEYOND", "loose(241) = BEYOND", "then(241, 0, 0) = BEYOND",
            "income(241) = BEYOND", "dearest(4, 1) = BEYOND", "lee(0, 0) = BEYOND", "who(6, 0, 0) = BEYOND",
            "voyage(0, 24, 1) = BEYOND", "voice(0, 4, 1) = BEYOND", "body(99) = NONE", "sheet(0, 8, 25) = BEYOND",
            "put(0, 3, 1) = BEYOND", "move(0, 0, 1, 0, 1) = KIND", "winds(3) = NONE", "judge(3) = NONE", "count(14) = BEYOND",
            "told(7) = BEYOND",
        };
        String sentence = "one that answers an ERROR changes nothing but what told() tells, or where told.";
        B.refused("ERRORS", sentence, RICH, beyond);
        B.refused("ERRORS", sentence, CROWDED, "boat(10, 0) = FULL");
        B.refused("ERRORS", sentence, NEW, "restore() = NONE", "boatIs(0, 0) = BEYOND", "body(0) = NONE", "put(0, 0, 0) = NONE");
        B.refusedBut("ERRORS", sentence, RICH, "check(3) = BEYOND", "check(0)");
    }

    // ---- Part 1

    private static void cellsAndQuarters() {
        B.test("Part 1", "THE SEA has CELLS of 4 rows (0 the north) and 6 columns, told as 6 times the row and the column (0 .. 23).",
            "boat(0, 0) = 0; boat(0, 23) = 1; boat(0, -1) = BEYOND; boat(0, 24) = BEYOND",
            "blows(0) = 10; blows(23) = 10; blows(-1) = BEYOND; blows(24) = BEYOND",
            "boat(20, 5); set(0, 3, 2); then(1, 0, 2) = 11; then(2, 0, 2) = 17; then(3, 0, 2) = 23; then(4, 0, 2) = 23; then(5, 0, 2) = 17",
            "boat(20, 18); then(1, 0, 2) = 19; then(5, 0, 2) = 23; then(6, 0, 2) = 23; then(7, 0, 2) = 22",
            "boat(20, 18); set(0, 3, 0); then(1, 0, 2) = 12; then(3, 0, 2) = 0; then(4, 0, 2) = 0; then(5, 0, 2) = 6",
            "voyage(5, 6, 1) = NONE; voyage(6, 5, 1) = NONE; voyage(5, 6, 6) = 12");
        B.test("Part 1", "QUARTERS 0 .. 3 are its rows;",
            "price(1, 50); boat(10, 5); boat(10, 6); boat(10, 11); boat(10, 12); set(0, 4, 40); set(1, 4, 40); set(2, 4, 40);"
                + "set(3, 4, 40); boatIs(0, 9) = 0; boatIs(1, 9) = 1; boatIs(2, 9) = 1; boatIs(3, 9) = 0",
            "price(0, 50); price(3, 60); boat(10, 0); boat(10, 5); boat(10, 17); boat(10, 18); boat(10, 23);"
                + "set(0, 4, 40); set(1, 4, 40); set(2, 4, 40); set(3, 4, 59); set(4, 4, 60);"
                + "boatIs(0, 9) = 1; boatIs(1, 9) = 1; boatIs(2, 9) = 0; boatIs(3, 9) = 1; boatIs(4, 9) = 0",
            "price(-1, 3) = BEYOND; price(0, 3) = 3; price(3, 3) = 3; price(4, 3) = BEYOND");
        B.test("Part 1", "each has a PRICE (coins a knot, 0 .. 99; 3 at first).",
            "count(10) = 3; count(11) = 3; count(12) = 3; count(13) = 3",
            "price(0, 0) = 3; price(0, -1) = BEYOND; price(0, 99) = 0; price(0, 100) = BEYOND; count(10) = 99",
            "boat(60, 0); hours(1) = 9; price(0, 0); hours(1) = 9; price(0, 1); hours(1) = 12; price(0, 99); hours(1) = 309");
    }

    private static void windAndHour() {
        StringBuilder first = new StringBuilder();
        for (int hour = 0; hour < 24; hour++) {
            first.append("wind(" + hour + ", " + hour + "0) = 103; ");
        }
        for (int hour = 0; hour < 24; hour++) {
            first.append("count(2) = " + hour + "; count(3) = 0; hours(1); ");
        }
        B.test("Part 1", "WIND: each of 24 HOURS of the day has KNOTS (0 .. 40; 10 at first)",
            "count(2) = 10; wind(0, 0) = 103; count(2) = 0; wind(0, 400) = 0; count(2) = 40; wind(0, 410) = BEYOND; wind(0, -10) = BEYOND;"
                + "count(2) = 40; wind(-1, 0) = BEYOND; wind(24, 0) = BEYOND; wind(23, 0) = 103",
            first.toString());
        B.test("Part 1", "and a WAY out of which it comes: 0 north, 1 east, 2 south, 3 west (3 at first).",
            "count(3) = 3; wind(0, 100) = 103; count(3) = 0; wind(0, 104) = BEYOND; wind(0, 105) = BEYOND; "
                + "wind(0, 109) = BEYOND; wind(0, -1) = BEYOND;"
                + "count(3) = 0; wind(0, 101) = 100; count(3) = 1; wind(0, 102) = 101; count(3) = 2; wind(0, 103) = 102; "
                + "count(3) = 3",
            "boat(10, 7); wind(0, 100); blows(1) = 10; blows(13) = 5; blows(6) = 10; blows(8) = 10",
            "boat(10, 7); wind(0, 101); blows(8) = 10; blows(6) = 5; blows(1) = 10; blows(13) = 10",
            "boat(10, 7); wind(0, 102); blows(13) = 10; blows(1) = 5; blows(6) = 10; blows(8) = 10",
            "boat(10, 7); wind(0, 103); blows(6) = 10; blows(8) = 5; blows(1) = 10; blows(13) = 10");
        B.test("Part 1", "HOUR (0 .. 9999; 0 at first): the WIND is that of its rest by 24.",
            "count(1) = 0; wind(0, 200); wind(23, 311); hours(23); count(2) = 31; count(3) = 1; hours(1); count(1) = 24; "
                + "count(2) = 20; count(3) = 0",
            "wind(15, 72); wind(14, 61); 41 x hours(240); hours(158); count(1) = 9998; count(2) = 6; count(3) = 1; "
                + "hours(1); count(1) = 9999; count(2) = 7; count(3) = 2; hours(1) = STATE; count(1) = 9999");
    }

    private static void boatsAndKinds() {
        B.test("Part 1", "BOATS 0, 1, .. (at most 8),",
            "count(0) = 0; boatIs(0, 0) = BEYOND; boat(60, 0) = 0; boat(60, 0) = 1; boat(60, 0) = 2; boat(60, 0) = 3; boat(60, 0) = 4;"
                + "boat(60, 0) = 5; boat(60, 0) = 6; boatIs(7, 0) = BEYOND; boat(61, 0) = 7; boat(60, 0) = FULL; count(0) = 8;"
                + "boatIs(7, 1) = 1; boatIs(8, 0) = BEYOND; boatIs(-1, 0) = BEYOND");
        String[] under = {"0", "01", "02", "013", "014", "025", "06"};
        StringBuilder kinds = new StringBuilder();
        for (int kind = 0; kind <= 6; kind++) {
            kinds.append("boat(" + kind + "0, 0) = " + kind + "; boatIs(" + kind + ", 0) = " + kind + "; ");
            for (int as = -1; as <= 7; as++) {
                boolean is = under[kind].indexOf('0' + as) >= 0;
                kinds.append("as(" + kind + ", " + as + ") = " + (as < 0 || as > 6 ? "BEYOND" : is ? "0" : "KIND") + "; ");
            }
        }
        B.test("Part 1", "of KINDS: 0 BOAT, 1 SAILER under BOAT, 2 ROWER under BOAT, 3 KITE under SAILER, 4 LICENSED under SAILER, "
                + "5 BARGE under ROWER, 6 MILL under BOAT;",
            kinds.toString(), "boat(-1, 0) = BEYOND; boat(0, 0) = 0; boat(69, 0) = 1; boat(70, 0) = BEYOND");
        B.test("Part 1", "each with a number m (0 .. 9),",
            "boat(60, 0); boat(69, 0); boat(70, 0) = BEYOND; boatIs(0, 1) = 0; boatIs(1, 1) = 9",
            "boat(64, 0); set(0, 1, 0) = 4; set(0, 1, -1) = BEYOND; set(0, 1, 9) = 0; set(0, 1, 10) = BEYOND; boatIs(0, 1) = 9");
        B.test("Part 1", "in a CELL (several may be in one),",
            "wind(0, 403); 8 x boat(10, 11); boatIs(0, 2) = 11; boatIs(7, 2) = 11; boatIs(0, 8) = 20; boatIs(1, 8) = 10; boatIs(2, 8) = 5;"
                + "boatIs(3, 8) = 2; boatIs(4, 8) = 1; boatIs(5, 8) = 1; boatIs(6, 8) = 0; boatIs(7, 8) = 0; gone(1) = 1",
            "boat(10, 3); set(0, 2, 0) = 3; set(0, 2, -1) = BEYOND; set(0, 2, 23) = 0; set(0, 2, 24) = BEYOND; boatIs(0, 2) = 23");
    }

    private static void partsOfBoats() {
        B.test("Part 1", "a HEAD (the WAY to which it goes, as above: 0 north ..; 1 at first),",
            "boat(20, 8); boatIs(0, 3) = 1; then(1, 0, 2) = 9; set(0, 3, 0) = 1; then(1, 0, 2) = 2; set(0, 3, 2) = 0; then(1, 0, 2) = 14;"
                + "set(0, 3, 3) = 2; then(1, 0, 2) = 7; set(0, 3, 4) = BEYOND; set(0, 3, -1) = BEYOND; boatIs(0, 3) = 3");
        B.test("Part 1", "a LIMIT (0 .. 99; 99 at first),",
            "boat(10, 0); boatIs(0, 4) = 99; set(0, 4, 100) = BEYOND; set(0, 4, 0) = 99; set(0, 4, -1) = BEYOND; boatIs(0, 4) = 0;"
                + "set(0, 4, 99) = 0; boatIs(0, 4) = 99",
            "boat(10, 0); price(0, 99); boatIs(0, 9) = 0; boatIs(0, 8) = 5; set(0, 4, 98); boatIs(0, 9) = 1");
        B.test("Part 1", "a GRANT (1: no bills, or 0, at first).",
            "boat(60, 0); boatIs(0, 7) = 0; set(0, 7, 1) = 0; hours(1) = 0; boatIs(0, 6) = 3; set(0, 7, 0) = 1; hours(1) = 9;"
                + "set(0, 7, 2) = BEYOND; set(0, 7, -1) = BEYOND; boatIs(0, 7) = 0",
            "boat(60, 0); set(0, 7, 1); set(0, 7, 2) = BEYOND; boatIs(0, 7) = 1; hours(1) = 0");
    }

    private static void owesAndUsed() {
        B.test("Part 1", "OWES (coins; 0 at first; below 0: is owed; held within -999999 .. 999999),",
            "boat(60, 0); boatIs(0, 5) = 0; hours(1) = 9; boatIs(0, 5) = 9",
            "boat(49, 0); wind(0, 0); hours(1) = -9; boatIs(0, 5) = -9; pay(0, 1) = STATE",
            "boat(60, 0); law(1, '9999'); hours(100) = 999900; law(1, '98'); hours(1) = 999998; law(1, '1'); hours(1) = 999999;"
                + "hours(1) = 999999; law(1, '9999'); hours(1) = 999999; boatIs(0, 5) = 999999; law(1, '0-1'); hours(1) = 999998",
            "boat(60, 0); law(1, '0-9999'); hours(100) = -999900; law(1, '0-98'); hours(1) = -999998; law(1, '0-1'); hours(1) = -999999;"
                + "hours(1) = -999999; law(1, '0-9999'); hours(1) = -999999; boatIs(0, 5) = -999999; law(1, '1'); hours(1) = -999998",
            "boat(20, 0); law(1, '9999'); set(0, 0, 6); hours(101) = 999999; set(0, 0, 2); hours(1) = 999999",
            "boat(69, 0); law(1, '0-9999'); hours(101) = -999999; wind(5, 3); set(0, 0, 4); hours(1) = -999999",
            "boat(60, 0); law(1, '9999'); hours(101); then(1, 0, 5) = 999999; income(1) = 0; pay(0, 9999) = 9999; income(240) = 9999",
            "boat(60, 0); boat(60, 6); law(1, '9999'); hours(101) = 1999998; count(4) = 1999998");
        StringBuilder gale = new StringBuilder();
        for (int hour = 0; hour < 24; hour++) {
            gale.append("wind(" + hour + ", 403); ");
        }
        B.test("Part 1", "USED (knots so far; 0 at first; 999999 at most),",
            "boat(60, 0); boatIs(0, 6) = 0; hours(1); boatIs(0, 6) = 3; hours(1); boatIs(0, 6) = 6; as(0, 6) = 6",
            gale + "boat(60, 0); law(0, 'b'); 41 x hours(240); hours(159); boatIs(0, 6) = 399960; count(5) = 399960; "
                + "then(240, 0, 6) = 409560");
    }

    /** What a BOAT of a KIND and with m WANTS of so many KNOTS: pairs. */
    private static String wanted(int km, int... knotsAndDue) {
        StringBuilder run = new StringBuilder("boat(" + km + ", 0)");
        for (int i = 0; i < knotsAndDue.length; i += 2) {
            run.append("; wind(0, " + (10 * knotsAndDue[i] + 3) + "); boatIs(0, 8) = " + knotsAndDue[i + 1]);
        }
        return run.toString();
    }

    private static void wants() {
        B.test("Part 1", "WANTS of a BOAT of what blows in its CELL, b KNOTS: BOAT: 0.", wanted(0, 0, 0, 40, 0), wanted(9, 1, 0, 40, 0));
        B.test("Part 1", "SAILER: half of b.", wanted(10, 0, 0, 1, 0, 2, 1, 3, 1, 39, 19, 40, 20), wanted(19, 0, 0, 1, 0, 40, 20));
        B.test("Part 1", "ROWER: as BOAT.", wanted(20, 0, 0, 40, 0), wanted(29, 1, 0, 40, 0));
        B.test("Part 1", "KITE: as SAILER, and m.",
            wanted(30, 0, 0, 1, 0, 2, 1, 40, 20), wanted(31, 0, 0, 1, 1, 2, 2, 3, 2, 40, 21), wanted(39, 40, 29, 39, 28));
        B.test("Part 1", "LICENSED: as SAILER, but m at most.",
            wanted(40, 0, 0, 40, 0), wanted(44, 0, 0, 1, 0, 7, 3, 8, 4, 9, 4, 10, 4, 40, 4), wanted(49, 17, 8, 18, 9, 20, 9, 40, 9));
        B.test("Part 1", "BARGE: as ROWER, and a quarter of b.",
            wanted(50, 0, 0, 3, 0, 4, 1, 7, 1, 8, 2, 39, 9, 40, 10), wanted(59, 3, 0, 40, 10));
        B.test("Part 1", "MILL: what GRINDS gives.",
            wanted(60, 0, 0, 2, 0, 3, 1, 39, 13, 40, 13), wanted(69, 2, 0, 40, 13), "law(0, '7'); " + wanted(60, 40, 7, 7, 7));
        B.test("Part 1", "(Held within 0 .. b;",
            wanted(39, 0, 0, 1, 1, 10, 10, 17, 17, 18, 18, 19, 18, 20, 19),
            "law(0, 'b+1'); " + wanted(60, 0, 0, 1, 1, 40, 40), "law(0, '0-1'); " + wanted(60, 0, 0, 40, 0),
            "law(0, '9999'); " + wanted(60, 40, 40), "law(0, '0-9999'); " + wanted(60, 40, 0), "law(0, 'b'); " + wanted(60, 0, 0, 40, 40),
            "law(0, '2048*1024*1024'); " + wanted(60, 40, 0));
    }

    private static void furled() {
        B.test("Part 1", "0, if the PRICE of its QUARTER is above LIMIT and it has no GRANT: it is FURLED.)",
            "boat(10, 0); set(0, 4, 0); boatIs(0, 9) = 1; boatIs(0, 8) = 0; price(0, 1); boatIs(0, 9) = 1; "
                + "boatIs(0, 8) = 0; price(0, 0); boatIs(0, 9) = 0; boatIs(0, 8) = 5",
            "boat(10, 0); price(0, 99); set(0, 4, 98); boatIs(0, 9) = 1; boatIs(0, 8) = 0; set(0, 4, 99); boatIs(0, 9) = 0; "
                + "boatIs(0, 8) = 5",
            "boat(10, 0); set(0, 4, 2); boatIs(0, 9) = 1; set(0, 4, 3); boatIs(0, 9) = 0; set(0, 4, 4); boatIs(0, 9) = 0",
            "boat(10, 0); set(0, 4, 0); set(0, 7, 1); boatIs(0, 9) = 0; boatIs(0, 8) = 5; set(0, 7, 0); boatIs(0, 9) = 1; "
                + "boatIs(0, 8) = 0",
            "boat(10, 6); set(0, 4, 3); price(0, 99); price(2, 99); price(3, 99); boatIs(0, 9) = 0; price(1, 4); boatIs(0, 9) = 1",
            "boat(9, 0); boat(29, 0); boat(39, 0); boat(49, 0); boat(59, 0); boat(69, 0); price(0, 99); law(0, 'b');"
                + "set(0, 4, 98); set(1, 4, 98); set(2, 4, 98); set(3, 4, 98); set(4, 4, 98); set(5, 4, 98);"
                + "boatIs(0, 9) = 1; boatIs(1, 9) = 1; boatIs(2, 9) = 1; boatIs(3, 9) = 1; boatIs(4, 9) = 1; boatIs(5, 9) = 1;"
                + "boatIs(2, 8) = 0; boatIs(3, 8) = 0; boatIs(4, 8) = 0; boatIs(5, 8) = 0; gone(0) = 10",
            "boat(10, 0); boat(10, 1); set(0, 4, 0); blows(1) = 10; boatIs(1, 8) = 5; set(0, 4, 3); blows(1) = 5; boatIs(1, 8) = 2");
    }

    private static void lines() {
        B.test("Part 1",
            "The WIND goes through each line of CELLS (a column, or a row) from the side out of which it comes: "
                + "KNOTS blow in the first CELL;",
            "wind(0, 100); boat(10, 3); blows(3) = 10; blows(9) = 5; blows(2) = 10; blows(4) = 10",
            "wind(0, 101); boat(10, 11); blows(11) = 10; blows(10) = 5; blows(5) = 10; blows(17) = 10",
            "wind(0, 102); boat(10, 20); blows(20) = 10; blows(14) = 5; blows(19) = 10; blows(21) = 10",
            "wind(0, 103); boat(10, 12); blows(12) = 10; blows(13) = 5; blows(6) = 10; blows(18) = 10",
            "wind(0, 3); boat(39, 0); blows(0) = 0; boatIs(0, 8) = 0; gone(0) = 0",
            "wind(0, 403); blows(0) = 40; blows(5) = 40; gone(0) = 40");
        B.test("Part 1", "in each CELL BOATS by numbers take, one behind the other, what they WANT of what still blows;",
            "boat(39, 0); boat(10, 0); boatIs(0, 8) = 10; boatIs(1, 8) = 0",
            "boat(10, 0); boat(34, 0); boatIs(0, 8) = 5; boatIs(1, 8) = 5",
            "boat(10, 6); boat(39, 0); set(0, 2, 0); boatIs(0, 8) = 5; boatIs(1, 8) = 5",
            "boat(10, 1); boat(10, 0); boatIs(0, 8) = 2; boatIs(1, 8) = 5",
            "wind(0, 101); boat(10, 1); boat(10, 0); boatIs(0, 8) = 5; boatIs(1, 8) = 2",
            "wind(0, 403); 7 x boat(10, 0); boat(49, 0); boatIs(6, 8) = 0; boatIs(7, 8) = 0; set(0, 2, 6); "
                + "boatIs(6, 8) = 1; boatIs(7, 8) = 0;"
                + "set(1, 2, 6); set(2, 2, 6); set(3, 2, 6); boatIs(4, 8) = 20; boatIs(5, 8) = 10; boatIs(6, 8) = 5; "
                + "boatIs(7, 8) = 2");
        B.test("Part 1", "what is left blows in the next CELL; behind the last one it is GONE.",
            "wind(0, 100); boat(10, 15); blows(21) = 5; boat(10, 21); blows(21) = 5; gone(3) = 3; gone(2) = 10",
            "wind(0, 101); boat(10, 7); blows(6) = 5; boat(10, 6); blows(6) = 5; gone(1) = 3; gone(0) = 10",
            "wind(0, 102); boat(10, 10); blows(4) = 5; boat(10, 4); blows(4) = 5; gone(4) = 3; gone(5) = 10",
            "wind(0, 103); boat(10, 16); blows(17) = 5; boat(10, 17); blows(17) = 5; gone(2) = 3; gone(3) = 10; blows(18) = 10",
            "boat(39, 0); blows(1) = 0; blows(5) = 0; gone(0) = 0");
        B.test("Part 1", "BLOWS of a CELL: what blows there ahead of all its BOATS.",
            "boat(39, 5); boat(10, 5); blows(5) = 10; gone(0) = 0", "8 x boat(10, 2); blows(2) = 10; blows(3) = 1");
    }

    // ---- Promises

    private static void newObject() {
        StringBuilder winds = new StringBuilder();
        for (int hour = 0; hour < 24; hour++) {
            winds.append("wind(" + hour + ", 0) = 103; ");
        }
        B.test("Promise 1", "All as at first; no BOATS.",
            "count(0) = 0; count(1) = 0; count(2) = 10; count(3) = 3; count(4) = 0; count(5) = 0; count(6) = 0; "
                + "count(7) = 0; count(8) = 0; count(9) = 1; count(10) = 3; count(11) = 3; count(12) = 3; count(13) = 3",
            winds.toString(), "told(1) = 0; told(2) = 0; told(3) = 0; told(4) = 0; told(5) = 0; told(6) = 0",
            "boatIs(0, 0) = BEYOND; boat(0, 0) = 0",
            "put(0, 0, 0) = NONE; put(1, 0, 0) = NONE; put(2, 0, 0) = NONE; put(3, 0, 0) = NONE", "restore() = NONE; image() = 1",
            "body(0) = NONE", "untell(0) = 0; untell(1) = 0", "seed(7) = 1", "tell(0) = 1", "feed(49, 1) = 1", "text(0) = -10",
            "hours(1) = 0; count(1) = 1", "income(240) = 0", "gone(0) = 10; gone(3) = 10; gone(4) = BEYOND");
    }

    private static void wind() {
        B.test("Promise 2", "WIND of an HOUR of the day (0 .. 23): kw: 10 times KNOTS, and the WAY: what it was, likewise.",
            "wind(0, 0) = 103; wind(0, 403) = 0; wind(0, 103) = 403; wind(1, 103) = 103",
            "wind(23, 400) = 103; wind(23, 3) = 400; wind(23, 12) = 3; wind(22, 0) = 103",
            "wind(0, 401) = 103; wind(0, 402) = 401; wind(0, 11) = 402; wind(0, 10) = 11; count(2) = 1; count(3) = 0",
            "wind(1, 222); count(2) = 10; hours(1); count(2) = 22; count(3) = 2");
        B.refused("Promise 2", "BEYOND.",
            RICH, "wind(-1, 103) = BEYOND", "wind(24, 103) = BEYOND", "wind(6, -1) = BEYOND", "wind(6, 4) = BEYOND",
            "wind(6, 5) = BEYOND", "wind(6, 9) = BEYOND", "wind(6, 104) = BEYOND", "wind(6, 109) = BEYOND", "wind(6, 399) = BEYOND",
            "wind(6, 404) = BEYOND", "wind(6, 409) = BEYOND", "wind(6, 410) = BEYOND", "wind(6, 411) = BEYOND",
            "wind(6, -7) = BEYOND", "wind(6, -10) = BEYOND", "wind(24, 404) = BEYOND");
        B.refused("Promise 2", "BEYOND.", RICH, Boundaries.farOutside("wind(6, 103)", "BEYOND", "BEYOND"));
    }

    private static void price() {
        B.test("Promise 3", "PRICE of a QUARTER becomes v: what it was.",
            "price(0, 10) = 3; price(1, 11) = 3; price(2, 12) = 3; price(3, 13) = 3; count(10) = 10; count(11) = 11; "
                + "count(12) = 12; count(13) = 13",
            "price(0, 0) = 3; price(0, 99) = 0; price(0, 99) = 99; price(3, 99) = 3; price(3, 0) = 99; count(13) = 0");
        B.refused("Promise 3", "BEYOND.",
            RICH, "price(-1, 1) = BEYOND", "price(4, 1) = BEYOND", "price(0, -1) = BEYOND", "price(0, 100) = BEYOND",
            "price(3, -1) = BEYOND", "price(3, 100) = BEYOND", "price(4, 100) = BEYOND");
        B.refused("Promise 3", "BEYOND.", RICH, Boundaries.farOutside("price(1, 1)", "BEYOND", "BEYOND"));
    }

    private static void boat() {
        B.test("Promise 4", "A BOAT: its number. km: 10 times the KIND, and m.",
            "boat(0, 0) = 0; boatIs(0, 0) = 0; boatIs(0, 1) = 0; boatIs(0, 2) = 0; boat(69, 23) = 1; boatIs(1, 0) = 6; "
                + "boatIs(1, 1) = 9; boatIs(1, 2) = 23",
            "boat(9, 1) = 0; boatIs(0, 0) = 0; boatIs(0, 1) = 9; boat(10, 1) = 1; boatIs(1, 0) = 1; boatIs(1, 1) = 0; "
                + "boat(60, 1) = 2; boatIs(2, 0) = 6; boatIs(2, 1) = 0",
            "boat(43, 9); boatIs(0, 3) = 1; boatIs(0, 4) = 99; boatIs(0, 5) = 0; boatIs(0, 6) = 0; boatIs(0, 7) = 0; "
                + "boatIs(0, 8) = 3; boatIs(0, 9) = 0",
            "image(); boat(10, 0) = 0; hours(1); set(0, 7, 1); set(0, 4, 5); set(0, 3, 2); restore(); boat(43, 9) = 0; "
                + "boatIs(0, 3) = 1; boatIs(0, 4) = 99; boatIs(0, 5) = 0; boatIs(0, 6) = 0; boatIs(0, 7) = 0");
        B.refused("Promise 4", "BEYOND.",
            RICH, "boat(-1, 0) = BEYOND", "boat(70, 0) = BEYOND", "boat(0, -1) = BEYOND", "boat(0, 24) = BEYOND",
            "boat(69, 24) = BEYOND", "boat(-10, 0) = BEYOND");
        B.refused("Promise 4", "BEYOND.", RICH, Boundaries.farOutside("boat(0, 0)", "BEYOND", "BEYOND"));
        B.refused("Promise 4", "FULL.",
            CROWDED, "boat(0, 0) = FULL", "boat(69, 23) = FULL", "boat(-1, 0) = BEYOND", "boat(70, 0) = BEYOND",
            "boat(0, -1) = BEYOND", "boat(0, 24) = BEYOND");
        B.test("Promise 4", "FULL.", "7 x boat(0, 0); boat(0, 0) = 7; boat(0, 0) = FULL; boat(0, 0) = FULL; count(0) = 8; told(4) = 2");
    }

    private static void boatIs() {
        B.test("Promise 5",
            "Of a BOAT: 0 KIND, 1 m, 2 CELL, 3 HEAD, 4 LIMIT, 5 OWES, 6 USED, 7 GRANT, 8 what it would take now, 9 1 "
                + "if it is FURLED, else 0.",
            "boat(0, 0); boat(35, 14); set(1, 3, 2); set(1, 4, 33); set(1, 7, 1); boatIs(1, 0) = 3; boatIs(1, 1) = 5; "
                + "boatIs(1, 2) = 14; boatIs(1, 3) = 2;"
                + "boatIs(1, 4) = 33; boatIs(1, 5) = 0; boatIs(1, 6) = 0; boatIs(1, 7) = 1; boatIs(1, 8) = 10; boatIs(1, 9) = 0",
            "boat(60, 0); hours(2); boatIs(0, 5) = 18; boatIs(0, 6) = 6; wind(2, 403); boatIs(0, 8) = 13; wind(3, 0); "
                + "boatIs(0, 8) = 13; set(0, 4, 2); boatIs(0, 9) = 1; boatIs(0, 8) = 0",
            "8 x boat(60, 0); boatIs(7, 9) = 0; boatIs(7, 0) = 6");
        B.refused("Promise 5", "BEYOND.",
            RICH, "boatIs(-1, 0) = BEYOND", "boatIs(3, 0) = BEYOND", "boatIs(0, -1) = BEYOND", "boatIs(0, 10) = BEYOND",
            "boatIs(3, 10) = BEYOND", "boatIs(7, 0) = BEYOND", "boatIs(8, 0) = BEYOND");
        B.refused("Promise 5", "BEYOND.", RICH, Boundaries.farOutside("boatIs(0, 0)", "BEYOND", "BEYOND"));
        B.refused("Promise 5", "BEYOND.", CROWDED, "boatIs(8, 0) = BEYOND", "boatIs(8, 8) = BEYOND");
        B.refused("Promise 5", "BEYOND.", NEW, "boatIs(0, 0) = BEYOND");
    }

    private static void as() {
        B.test("Promise 6", "A BOAT as one of a KIND: USED.",
            "boat(30, 0); hours(1); as(0, 3) = 5; as(0, 1) = 5; as(0, 0) = 5; boatIs(0, 6) = 5",
            "boat(50, 0); hours(1); as(0, 5) = 2; as(0, 2) = 2; as(0, 0) = 2",
            "boat(60, 0); as(0, 6) = 0; hours(1); as(0, 6) = 3; as(0, 0) = 3", "boat(0, 0); as(0, 0) = 0");
        B.refused("Promise 6", "BEYOND.",
            RICH, "as(-1, 0) = BEYOND", "as(3, 0) = BEYOND", "as(0, -1) = BEYOND", "as(0, 7) = BEYOND", "as(3, 7) = BEYOND",
            "as(3, 1) = BEYOND");
        B.refused("Promise 6", "BEYOND.", RICH, Boundaries.farOutside("as(0, 0)", "BEYOND", "BEYOND"));
        B.refused("Promise 6", "KIND: it is not of that KIND, nor of one under it.",
            RICH, "as(0, 1) = KIND", "as(0, 5) = KIND", "as(1, 6) = KIND", "as(1, 2) = KIND", "as(1, 3) = KIND", "as(2, 5) = KIND",
            "as(2, 1) = KIND");
        B.test("Promise 6", "KIND: it is not of that KIND, nor of one under it.",
            "boat(0, 0); as(0, 1) = KIND; as(0, 2) = KIND; as(0, 6) = KIND",
            "boat(10, 0); as(0, 3) = KIND; as(0, 4) = KIND; set(0, 0, 3); as(0, 3) = 0; as(0, 4) = KIND");
    }

    /** All parts of BOAT 0, from its KIND to its GRANT. */
    private static String parts(int... want) {
        StringBuilder run = new StringBuilder();
        for (int what = 0; what < want.length; what++) {
            run.append("; boatIs(0, " + what + ") = " + want[what]);
        }
        return run.toString();
    }

    private static void set() {
        B.test("Promise 7", "KIND (what 0), m (1), CELL (2), HEAD (3), LIMIT (4), GRANT (7) of a BOAT becomes v: what it was.",
            "boat(12, 7); set(0, 0, 0) = 1; set(0, 0, 6) = 0; boatIs(0, 0) = 6; set(0, 1, 0) = 2; set(0, 1, 9) = 0; "
                + "boatIs(0, 1) = 9; set(0, 2, 0) = 7; set(0, 2, 23) = 0; boatIs(0, 2) = 23",
            "boat(12, 7); set(0, 3, 0) = 1; set(0, 3, 3) = 0; boatIs(0, 3) = 3; set(0, 4, 0) = 99; set(0, 4, 99) = 0; "
                + "boatIs(0, 4) = 99; set(0, 7, 1) = 0; set(0, 7, 0) = 1; boatIs(0, 7) = 0",
            "8 x boat(12, 7); set(7, 2, 0) = 7; boatIs(7, 2) = 0; boatIs(6, 2) = 7",
            "boat(60, 0); hours(1); set(0, 0, 1); boatIs(0, 5) = 9; boatIs(0, 6) = 3; boatIs(0, 8) = 5",
            "boat(65, 7); hours(2); set(0, 3, 2); set(0, 4, 44); set(0, 7, 1)" + parts(6, 5, 7, 2, 44, 18, 6, 1)
                + "; set(0, 0, 3) = 6" + parts(3, 5, 7, 2, 44, 18, 6, 1) + "; set(0, 1, 8) = 5" + parts(3, 8, 7, 2, 44, 18, 6, 1)
                + "; set(0, 2, 20) = 7" + parts(3, 8, 20, 2, 44, 18, 6, 1) + "; set(0, 3, 0) = 2" + parts(3, 8, 20, 0, 44, 18, 6, 1)
                + "; set(0, 4, 1) = 44" + parts(3, 8, 20, 0, 1, 18, 6, 1) + "; set(0, 7, 0) = 1" + parts(3, 8, 20, 0, 1, 18, 6, 0)
                + "; pay(0, 5) = 5" + parts(3, 8, 20, 0, 1, 13, 6, 0));
        B.refused("Promise 7", "BEYOND.",
            RICH, "set(-1, 0, 0) = BEYOND", "set(3, 0, 0) = BEYOND", "set(0, -1, 0) = BEYOND", "set(0, 5, 0) = BEYOND",
            "set(0, 6, 0) = BEYOND", "set(0, 5, 1) = BEYOND", "set(0, 6, 1) = BEYOND", "set(0, 8, 0) = BEYOND",
            "set(0, 9, 0) = BEYOND", "set(0, 10, 0) = BEYOND", "set(0, 0, -1) = BEYOND", "set(0, 0, 7) = BEYOND",
            "set(0, 1, -1) = BEYOND", "set(0, 1, 10) = BEYOND", "set(0, 2, -1) = BEYOND", "set(0, 2, 24) = BEYOND",
            "set(0, 3, -1) = BEYOND", "set(0, 3, 4) = BEYOND", "set(0, 4, -1) = BEYOND", "set(0, 4, 100) = BEYOND",
            "set(0, 7, -1) = BEYOND", "set(0, 7, 2) = BEYOND", "set(3, 7, 2) = BEYOND", "set(0, 5, -1) = BEYOND");
        for (int what : new int[] {0, 1, 2, 3, 4, 7}) {
            B.refused("Promise 7", "BEYOND.", RICH, Boundaries.farOutside("set(0, " + what + ", 0)", "BEYOND", "BEYOND", "BEYOND"));
        }
    }

    private static void pay() {
        String owing = "boat(60, 0); boat(60, 6); image(); hours(3) = 54";
        B.test("Promise 8", "A BOAT pays so many coins (1 .. 9999; if it OWES less, all of that): how many.",
            "boat(60, 0); hours(1) = 9; pay(0, 1) = 1; boatIs(0, 5) = 8; pay(0, 7) = 7; boatIs(0, 5) = 1; pay(0, 1) = 1; "
                + "boatIs(0, 5) = 0",
            "boat(60, 0); hours(1) = 9; pay(0, 8) = 8; boatIs(0, 5) = 1",
            "boat(60, 0); hours(1) = 9; pay(0, 9) = 9; boatIs(0, 5) = 0; pay(0, 9) = STATE",
            "boat(60, 0); hours(1) = 9; pay(0, 10) = 9; boatIs(0, 5) = 0; count(4) = 0",
            "boat(60, 0); hours(1) = 9; pay(0, 9999) = 9; boatIs(0, 5) = 0",
            "boat(60, 0); law(1, '9999'); hours(2) = 19998; pay(0, 9999) = 9999; boatIs(0, 5) = 9999; pay(0, 9999) = 9999; "
                + "boatIs(0, 5) = 0",
            "boat(60, 0); boat(60, 6); hours(1) = 18; pay(1, 4) = 4; boatIs(0, 5) = 9; boatIs(1, 5) = 5");
        B.refused("Promise 8", "BEYOND.",
            owing, "pay(-1, 1) = BEYOND", "pay(2, 1) = BEYOND", "pay(1, 0) = BEYOND", "pay(1, -1) = BEYOND",
            "pay(1, 10000) = BEYOND", "pay(2, 0) = BEYOND");
        B.refused("Promise 8", "BEYOND.", owing, Boundaries.farOutside("pay(1, 1)", "BEYOND", "BEYOND"));
        String calm = "boat(49, 0); boat(0, 6); boat(60, 12); wind(0, 0); hours(1) = -9";
        B.refused("Promise 8", "STATE: it OWES nothing.",
            calm, "pay(0, 1) = STATE", "pay(0, 9) = STATE", "pay(0, 9999) = STATE", "pay(1, 1) = STATE", "pay(2, 9999) = STATE",
            "pay(0, 0) = BEYOND", "pay(1, 10000) = BEYOND", "pay(3, 1) = BEYOND");
        B.test("Promise 8", "STATE: it OWES nothing.",
            "boat(60, 0); pay(0, 1) = STATE; hours(1) = 9; pay(0, 9) = 9; pay(0, 1) = STATE; boatIs(0, 5) = 0");
    }

    private static void blows() {
        B.test("Promise 9", "BLOWS of a CELL now.",
            "blows(0) = 10; blows(23) = 10; wind(0, 0); blows(0) = 0; wind(0, 403); blows(0) = 40; blows(23) = 40",
            "boat(10, 0); wind(1, 403); blows(0) = 10; blows(1) = 5; hours(1); blows(1) = 40; blows(2) = 20; blows(0) = 40",
            "boat(10, 22); blows(22) = 10; blows(23) = 5; wind(0, 101); blows(23) = 10; blows(22) = 10; blows(18) = 5");
        B.refused("Promise 9", "BEYOND.", RICH, "blows(-1) = BEYOND", "blows(24) = BEYOND", "blows(MIN) = BEYOND", "blows(MAX) = BEYOND");
    }

    private static void gone() {
        B.test("Promise 10", "GONE behind a line now (column, or row, as the WIND comes).",
            "boat(10, 7); boat(10, 23); gone(0) = 10; gone(1) = 5; gone(2) = 10; gone(3) = 5",
            "boat(10, 7); boat(10, 23); wind(0, 200); gone(0) = 20; gone(1) = 10; gone(3) = 20; gone(5) = 10",
            "boat(10, 7); boat(10, 23); wind(0, 201); gone(1) = 10; gone(3) = 10; gone(0) = 20",
            "boat(10, 7); boat(10, 23); wind(0, 202); gone(1) = 10; gone(5) = 10; gone(4) = 20",
            "wind(0, 0); gone(0) = 0; gone(5) = 0", "wind(1, 0); gone(4) = BEYOND; hours(1); gone(4) = 0");
        B.refused("Promise 10", "BEYOND: no such line.",
            RICH, "gone(-1) = BEYOND", "gone(6) = BEYOND", "gone(MIN) = BEYOND", "gone(MAX) = BEYOND");
        B.refused("Promise 10", "BEYOND: no such line.", RICH + "; wind(6, 100)", "gone(-1) = BEYOND", "gone(6) = BEYOND");
        B.refused("Promise 10", "BEYOND: no such line.",
            RICH + "; wind(6, 101)", "gone(-1) = BEYOND", "gone(4) = BEYOND", "gone(5) = BEYOND");
        B.refused("Promise 10", "BEYOND: no such line.",
            RICH + "; wind(6, 103)", "gone(-1) = BEYOND", "gone(4) = BEYOND", "gone(5) = BEYOND");
    }
}
