/** Sentences on VOICES and SHEETS, and promises 23 to 35: edges, what lies outside, and refused calls. */
public final class BoundsVoicesTest {
    private static final Boundaries B = new Boundaries("bounds of voices, sheets, images");
    private static final String RICH = Boundaries.RICH;
    private static final String LATE = Boundaries.LATE;
    private static final String CROWDED = Boundaries.CROWDED;
    private static final String NEW = Boundaries.NEW;
    /** A TEXT of 60 bytes but for its last one. */
    private static final String SIXTY = "1+".repeat(29) + "0";
    /** BODIES by KINDS and voices, as they begin. */
    private static final int[][][] TRACES = {
        {{10}, {11, 10}, {12, 11, 10}, {13}},
        {{20, 10}, {11, 20, 10}, {12, 11, 20, 10}, {21, 13, 11, 20, 10}},
        {{10}, {30, 11, 10}, {12, 30, 11, 10}, {13}},
        {{40, 20, 10}, {11, 40, 20, 10}, {41, 12, 11, 40, 20, 10}, {21, 13, 11, 40, 20, 10}},
        {{20, 10}, {11, 20, 10}, {50, 12, 11, 20, 10}, {21, 13, 11, 20, 10}},
        {{10}, {60, 30, 11, 10}, {12, 60, 30, 11, 10}, {13}},
        {{70}, {71, 11, 70}, {12, 71, 11, 70}, {13}},
    };

    public static void main(String[] args) throws Exception {
        voicesOfBoat();
        voicesOfSailers();
        voicesOfOthers();
        trace();
        sheets();
        voice();
        body();
        sheet();
        put();
        move();
        winds();
        judge();
        image();
        restore();
        tell();
        check();
        count();
        told();
        B.end("Part 4", "Part 5", "Promise 23", "Promise 24", "Promise 25", "Promise 26", "Promise 27", "Promise 28", "Promise 29",
            "Promise 30", "Promise 31", "Promise 32", "Promise 33", "Promise 34", "Promise 35");
    }

    /** A run with a BOAT whose number is k. */
    private static String numbered(int k, int km, String rest) {
        return (k == 0 ? "" : k + " x boat(0, 0); ") + "boat(" + km + ", 0) = " + k + "; " + rest;
    }

    /** THE TRACE is just this. */
    private static String traced(int... bodies) {
        StringBuilder run = new StringBuilder("; count(8) = " + bodies.length);
        for (int i = 0; i < bodies.length; i++) {
            run.append("; body(" + i + ") = " + bodies[i]);
        }
        return run.append("; body(" + bodies.length + ") = NONE; ").toString();
    }

    // ---- Part 4

    private static void voicesOfBoat() {
        B.test("Part 4",
            "VOICES of a BOAT, with a number x (ints that wrap); k is its number, m as told: 0 sails, 1 takes, 2 owes, 3 parts.",
            numbered(2, 9, "voice(2, 0, 100) = 102; voice(2, 1, 100) = 204; voice(2, 2, 100) = 195; "
                + "voice(2, 3, 100) = 14; voice(2, 4, 100) = BEYOND; voice(2, -1, 100) = BEYOND"),
            numbered(0, 9, "voice(0, 0, MAX) = MAX; voice(0, 0, MIN) = MIN; voice(0, 1, MAX) = -2; "
                + "voice(0, 1, MIN) = 0; voice(0, 2, MIN) = -9"),
            numbered(7, 9, "voice(7, 0, 0) = 7; voice(7, 0, MAX) = " + (Integer.MIN_VALUE + 6) + "; voice(7, 3, 9) = 4"));
        B.test("Part 4", "BODIES: BOAT: 10 sails: x + k.",
            numbered(0, 5, "voice(0, 0, 7) = 7") + traced(10),
            numbered(1, 5, "voice(1, 0, MAX) = MIN; voice(1, 0, -1) = 0; voice(1, 0, MIN) = -2147483647"));
        B.test("Part 4", "11 takes: sails(x) * 2.",
            numbered(1, 5, "voice(1, 1, 7) = 16") + traced(11, 10),
            numbered(0, 5, "voice(0, 1, 1073741823) = 2147483646; voice(0, 1, 1073741824) = MIN; "
                + "voice(0, 1, -1073741824) = MIN; voice(0, 1, -1073741825) = 2147483646"));
        B.test("Part 4", "12 owes: takes(x) - m.",
            numbered(1, 0, "voice(1, 2, 7) = 16") + traced(12, 11, 10),
            numbered(0, 9, "voice(0, 2, 7) = 5; voice(0, 2, -1073741824) = 2147483639"));
        B.test("Part 4", "13 parts: x by (m - k), cut (PARTED if m - k is 0; that is all that voice() answers then).",
            numbered(0, 9, "voice(0, 3, 8) = 0; voice(0, 3, 9) = 1; voice(0, 3, -8) = 0; voice(0, 3, -9) = -1; "
                + "voice(0, 3, -17) = -1; voice(0, 3, MIN) = -238609294") + traced(13),
            numbered(1, 0, "voice(1, 3, 7) = -7; voice(1, 3, MIN) = MIN; voice(1, 3, MAX) = -2147483647"),
            numbered(1, 2, "voice(1, 3, MIN) = MIN; voice(1, 3, MAX) = MAX"),
            numbered(7, 0, "voice(7, 3, 20) = -2; voice(7, 3, -20) = 2; voice(7, 3, 6) = 0"),
            numbered(0, 0, "voice(0, 3, 0) = PARTED; voice(0, 3, MIN) = PARTED; voice(0, 3, 5) = PARTED; told(6) = 3") + traced(13),
            numbered(7, 7, "voice(7, 3, 1) = PARTED; set(7, 1, 8); voice(7, 3, 1) = 1; set(7, 1, 6); voice(7, 3, 1) = -1"),
            numbered(1, 1, "voice(1, 3, 1) = PARTED; voice(1, 0, 1) = 2; voice(1, 1, 1) = 4; voice(1, 2, 1) = 3; told(6) = 1"));
    }

    private static void voicesOfSailers() {
        B.test("Part 4", "SAILER: 20 sails: super.sails(x) - 3.",
            numbered(1, 15, "voice(1, 0, 7) = 5") + traced(20, 10),
            numbered(0, 10, "voice(0, 0, 3) = 0; voice(0, 0, MIN) = 2147483645; voice(0, 0, MAX) = 2147483644"));
        B.test("Part 4", "21 parts: super.parts(x) + takes(1).",
            numbered(0, 11, "voice(0, 3, 10) = 6; voice(0, 3, MIN) = 2147483644") + traced(21, 13, 11, 20, 10),
            numbered(1, 19, "voice(1, 3, 16) = 0; voice(1, 3, 7) = -2"),
            numbered(0, 31, "voice(0, 3, 10) = -2") + traced(21, 13, 11, 40, 20, 10),
            numbered(0, 41, "voice(0, 3, 10) = 6") + traced(21, 13, 11, 20, 10),
            numbered(0, 10, "voice(0, 3, 10) = PARTED") + traced(21, 13),
            numbered(3, 33, "voice(3, 3, 10) = PARTED") + traced(21, 13),
            numbered(7, 47, "voice(7, 3, 10) = PARTED") + traced(21, 13));
        B.test("Part 4", "KITE: 40 sails: super.sails(x) * 3.",
            numbered(2, 39, "voice(2, 0, 100) = 297") + traced(40, 20, 10),
            numbered(0, 30, "voice(0, 0, 3) = 0; voice(0, 0, MAX) = 2147483636; voice(0, 0, MIN) = 2147483639"));
        B.test("Part 4", "41 owes: super.owes(x) ^ k.",
            numbered(2, 39, "voice(2, 2, 100) = 587") + traced(41, 12, 11, 40, 20, 10), numbered(1, 39, "voice(1, 2, 0) = -22"),
            numbered(0, 30, "voice(0, 2, 4) = 6"), numbered(7, 30, "voice(7, 2, 0) = 31"));
        B.test("Part 4", "LICENSED: 50 owes: super.owes(x / 2).",
            numbered(0, 40, "voice(0, 2, 7) = 0; voice(0, 2, 6) = 0; voice(0, 2, 5) = -2") + traced(50, 12, 11, 20, 10),
            numbered(0, 40, "voice(0, 2, 1) = -6; voice(0, 2, -1) = -6; voice(0, 2, -2) = -8; "
                + "voice(0, 2, MIN) = 2147483642; voice(0, 2, MAX) = 2147483640"),
            numbered(4, 45, "voice(4, 2, 7) = 3"));
    }

    private static void voicesOfOthers() {
        B.test("Part 4", "ROWER: 30 takes: 0 - super.takes(x).",
            numbered(0, 20, "voice(0, 1, 7) = -14; voice(0, 1, -7) = 14; voice(0, 1, 0) = 0; "
                + "voice(0, 1, -1073741824) = MIN") + traced(30, 11, 10),
            numbered(2, 23, "voice(2, 1, 7) = -18; voice(2, 2, 7) = -21"));
        B.test("Part 4", "BARGE: 60 takes: super.takes(x + 1).",
            numbered(0, 50, "voice(0, 1, 7) = -16; voice(0, 1, -1) = 0; voice(0, 1, MAX) = 0; voice(0, 1, -2) = 2")
                + traced(60, 30, 11, 10),
            numbered(5, 56, "voice(5, 1, 7) = -26"));
        B.test("Part 4", "MILL: 70 sails: 5.",
            numbered(7, 69, "voice(7, 0, 0) = 5; voice(7, 0, MIN) = 5; voice(7, 0, MAX) = 5") + traced(70));
        B.test("Part 4", "71 takes: super.takes(x) + m.",
            numbered(1, 60, "voice(1, 1, 7) = 10") + traced(71, 11, 70),
            numbered(1, 69, "voice(1, 1, MIN) = 19; voice(1, 2, 7) = 10; voice(1, 3, 17) = 2"));
        StringBuilder all = new StringBuilder("boat(1, 0); ");
        for (int kind = 0; kind <= 6; kind++) {
            for (int voice = 0; voice <= 3; voice++) {
                all.append("set(0, 0, " + kind + "); voice(0, " + voice + ", 7)" + traced(TRACES[kind][voice]));
            }
        }
        B.test("Part 4",
            "sails(..) is the BODY of its KIND, or of the next KIND above that has one; "
                + "super.sails(..) that from the KIND above the BODY's on.",
            all.toString(),
            numbered(0, 11, "voice(0, 1, 7) = 8; set(0, 0, 3); voice(0, 1, 7) = 24; set(0, 0, 6); "
                + "voice(0, 1, 7) = 11; set(0, 0, 5); voice(0, 2, 7) = -17"));
    }

    private static void trace() {
        B.test("Part 4",
            "THE TRACE: the numbers of BODIES of the latest voice() (PARTED, too), as they began (what stands left is "
                + "worked out first), the first 30.",
            "count(8) = 0; body(0) = NONE",
            "boat(39, 0); voice(0, 2, 1)" + traced(41, 12, 11, 40, 20, 10) + "voice(0, 0, 1)" + traced(40, 20, 10)
                + "voice(0, 3, 1)" + traced(21, 13, 11, 40, 20, 10),
            "boat(10, 0); voice(0, 1, 1)" + traced(11, 20, 10) + "voice(0, 3, 1) = PARTED" + traced(21, 13)
                + "voice(0, 4, 1) = BEYOND" + traced(21, 13) + "voice(1, 0, 1) = BEYOND" + traced(21, 13),
            "boat(0, 0); voice(0, 3, 1) = PARTED" + traced(13) + "voice(0, 0, 1)" + traced(10),
            "boat(10, 0); voice(0, 0, 1); hours(5); set(0, 0, 6); image(); restore()" + traced(20, 10));
    }

    // ---- Part 5

    private static void sheets() {
        B.test("Part 5", "SHEETS 0 .. 3 are rows of 8, 16, 32 bits, at most 24 numbers, or missing (as at first).",
            "winds(0) = NONE; winds(1) = NONE; winds(2) = NONE; winds(3) = NONE; winds(4) = BEYOND; winds(-1) = BEYOND",
            "sheet(0, 8, 24) = 1; sheet(1, 16, 24) = 1; sheet(2, 32, 24) = 1; sheet(3, 8, 0) = 1; winds(0) = 24; "
                + "winds(1) = 24; winds(2) = 24; winds(3) = 0",
            "sheet(0, 8, 25) = BEYOND; sheet(0, 64, 1) = BEYOND; sheet(0, 4, 1) = BEYOND; sheet(4, 8, 1) = BEYOND; "
                + "sheet(-1, 8, 1) = BEYOND; winds(0) = NONE");
    }

    // ---- Promises

    private static void voice() {
        B.test("Promise 23", "A VOICE of a BOAT.",
            "boat(10, 0); voice(0, 0, 7) = 4; voice(0, 1, 7) = 8; voice(0, 2, 7) = 8; set(0, 1, 9); voice(0, 2, 7) = -1; "
                + "voice(0, 3, 7) = -4",
            "8 x boat(19, 0); voice(7, 0, 0) = 4; voice(7, 3, 7) = 13; voice(8, 0, 0) = BEYOND",
            "boat(0, 0); voice(0, 0, BEYOND) = BEYOND; voice(0, 0, PARTED) = PARTED; told(1) = 0; told(6) = 0");
        B.leaves("Promise 23", "A VOICE of a BOAT.", RICH, "voice(0, 1, 7)", "voice(1, 2, 7)", "voice(1, 3, 7)");
        B.refused("Promise 23", "BEYOND.",
            RICH, "voice(-1, 0, 1) = BEYOND", "voice(3, 0, 1) = BEYOND", "voice(0, -1, 1) = BEYOND", "voice(0, 4, 1) = BEYOND",
            "voice(3, 4, 1) = BEYOND");
        B.refused("Promise 23", "BEYOND.", RICH, Boundaries.farOutside("voice(0, 0, 0)", "BEYOND", "BEYOND"));
        B.refused("Promise 23", "BEYOND.",
            RICH + "; set(0, 1, 0)", "voice(-1, 3, 1) = BEYOND", "voice(3, 3, 1) = BEYOND", "voice(0, 4, 1) = BEYOND");
        B.refused("Promise 23", "BEYOND.", NEW, "voice(0, 0, 0) = BEYOND");
        B.refused("Promise 23", "PARTED.",
            RICH + "; set(0, 1, 0); voice(0, 3, 1) = PARTED", "voice(0, 3, 1) = PARTED", "voice(0, 3, MIN) = PARTED",
            "voice(0, 3, 0) = PARTED");
        B.refused("Promise 23", "PARTED.",
            RICH + "; set(1, 1, 1); voice(1, 3, 1) = PARTED", "voice(1, 3, 1) = PARTED", "voice(1, 3, MAX) = PARTED");
        B.test("Promise 23", "PARTED.",
            "7 x boat(0, 0); boat(7, 0); voice(0, 3, 1) = PARTED; voice(7, 3, 1) = PARTED; voice(1, 3, 1) = -1; told(6) = 2");
    }

    private static void body() {
        B.test("Promise 24", "THE TRACE's i-th.",
            "boat(39, 0); voice(0, 2, 1); body(0) = 41; body(1) = 12; body(5) = 10; body(0) = 41",
            "boat(60, 0); voice(0, 0, 1); body(0) = 70");
        B.leaves("Promise 24", "THE TRACE's i-th.", RICH, "body(0) = 21", "body(4) = 10");
        B.refused("Promise 24", "NONE: there is none such.",
            RICH, "body(-1) = NONE", "body(5) = NONE", "body(6) = NONE", "body(29) = NONE", "body(30) = NONE", "body(31) = NONE",
            "body(MIN) = NONE", "body(MAX) = NONE");
        B.refused("Promise 24", "NONE: there is none such.", NEW, "body(0) = NONE", "body(-1) = NONE");
        B.test("Promise 24", "NONE: there is none such.",
            "boat(39, 0); voice(0, 2, 1); body(5) = 10; body(6) = NONE; voice(0, 0, 1); body(2) = 10; body(3) = NONE; told(2) = 2");
    }

    private static void sheet() {
        B.test("Promise 25", "A SHEET has n numbers, all 0, of so many bits (8, 16, 32; 0: it is missing, n doesn't matter): 1.",
            "sheet(0, 8, 0) = 1; winds(0) = 0; put(0, 0, 0) = BEYOND; sheet(0, 8, 1) = 1; put(0, 0, 0) = 1; "
                + "put(0, 1, 0) = BEYOND; sheet(0, 8, 24) = 1; put(0, 23, 0) = 1; put(0, 24, 0) = BEYOND",
            "sheet(3, 32, 24) = 1; winds(3) = 24; count(2) = 0; count(3) = 0; put(3, 23, 0) = 1; put(3, 24, 0) = BEYOND",
            "sheet(1, 16, 2); put(1, 0, 12); put(1, 1, 22); sheet(1, 16, 2) = 1; winds(1) = 2; wind(0, 3) = 0; wind(1, 3) = 0",
            "sheet(1, 16, 24); put(1, 5, 22); sheet(1, 16, 1) = 1; sheet(1, 32, 24) = 1; winds(1) = 24; wind(5, 3) = 0",
            "sheet(2, 16, 1); put(2, 0, 256); sheet(2, 0, 0) = 1; winds(2) = NONE; put(2, 0, 0) = NONE",
            "sheet(2, 0, -1) = 1; sheet(2, 0, MIN) = 1; sheet(2, 0, 25) = 1; sheet(2, 0, MAX) = 1; winds(2) = NONE; "
                + "told(1) = 0; told(3) = 0",
            "sheet(0, 8, 3); sheet(1, 8, 3); sheet(0, 0, -1) = 1; winds(0) = NONE; winds(1) = 3",
            "sheet(0, 8, 3); sheet(0, 0, 3); sheet(0, 8, 2) = 1; winds(0) = 2");
        B.refused("Promise 25", "BEYOND.",
            RICH, "sheet(-1, 8, 1) = BEYOND", "sheet(4, 8, 1) = BEYOND", "sheet(0, 8, 25) = BEYOND", "sheet(0, 16, 25) = BEYOND",
            "sheet(0, 32, 25) = BEYOND", "sheet(0, 8, MAX) = BEYOND", "sheet(0, -1, 1) = BEYOND", "sheet(0, 1, 1) = BEYOND",
            "sheet(0, 4, 1) = BEYOND", "sheet(0, 7, 1) = BEYOND", "sheet(0, 9, 1) = BEYOND", "sheet(0, 15, 1) = BEYOND",
            "sheet(0, 17, 1) = BEYOND", "sheet(0, 24, 1) = BEYOND", "sheet(0, 31, 1) = BEYOND", "sheet(0, 33, 1) = BEYOND",
            "sheet(0, 64, 1) = BEYOND", "sheet(0, -8, 1) = BEYOND", "sheet(-1, 0, 0) = BEYOND", "sheet(4, 0, 0) = BEYOND",
            "sheet(3, 8, 25) = BEYOND");
        B.refused("Promise 25", "BEYOND.", RICH, Boundaries.farOutside("sheet(0, 8, 1)", "BEYOND", "BEYOND"));
        B.refused("Promise 25", "STATE: n is below 0 (ahead of BEYOND of n).",
            RICH, "sheet(0, 8, -1) = STATE", "sheet(0, 16, -1) = STATE", "sheet(0, 32, -1) = STATE", "sheet(0, 8, MIN) = STATE",
            "sheet(3, 8, -1) = STATE", "sheet(4, 8, -1) = BEYOND", "sheet(-1, 8, -1) = BEYOND", "sheet(0, 9, -1) = BEYOND",
            "sheet(4, 9, -1) = BEYOND", "sheet(4, 0, -1) = BEYOND");
    }

    private static void put() {
        B.test("Promise 26", "Number i of a SHEET becomes v (its lowest bits, with their sign): 1.",
            "sheet(0, 8, 2); put(0, 0, 123) = 1; put(0, 1, 359) = 1; winds(0) = 2; wind(0, 3) = 123; wind(1, 3) = 103",
            "sheet(0, 8, 1); put(0, 0, 131) = 1; winds(0) = 0; put(0, 0, 387) = 1; winds(0) = 0; put(0, 0, -153) = 1; "
                + "winds(0) = 1; wind(0, 3) = 103",
            "sheet(0, 16, 2); put(0, 0, 403) = 1; put(0, 1, 65939) = 1; winds(0) = 2; wind(0, 3) = 403; wind(1, 3) = 403",
            "sheet(0, 16, 1); put(0, 0, 32871) = 1; winds(0) = 0; put(0, 0, -65433) = 1; winds(0) = 1; wind(0, 3) = 103; "
                + "put(0, 0, 359) = 1; winds(0) = 0",
            "sheet(0, 32, 1); put(0, 0, 65639) = 1; winds(0) = 0; put(0, 0, MIN) = 1; winds(0) = 0; put(0, 0, 103) = 1; "
                + "winds(0) = 1; put(0, 0, MAX) = 1; winds(0) = 0; put(0, 0, 359) = 1; winds(0) = 0",
            "boat(0, 0); sheet(0, 8, 1); put(0, 0, 256) = 1; judge(0) = 1; put(0, 0, 128) = 1; judge(0) = 0; "
                + "put(0, 0, MIN) = 1; judge(0) = 1; put(0, 0, -1) = 1; judge(0) = 0",
            "boat(0, 0); sheet(0, 16, 1); put(0, 0, 65536) = 1; judge(0) = 1; put(0, 0, 256) = 1; judge(0) = 0; "
                + "put(0, 0, MIN) = 1; judge(0) = 1; put(0, 0, 32768) = 1; judge(0) = 0",
            "boat(0, 0); sheet(0, 32, 1); put(0, 0, MIN) = 1; judge(0) = 0; put(0, 0, 0) = 1; judge(0) = 1; "
                + "put(0, 0, 65536) = 1; judge(0) = 0",
            "sheet(3, 8, 24); put(3, 0, 12) = 1; put(3, 23, 13) = 1; winds(3) = 24; wind(0, 3) = 12; wind(23, 3) = 13; "
                + "wind(22, 3) = 0; wind(1, 3) = 0",
            "sheet(0, 8, 1); sheet(1, 8, 1); put(0, 0, 12); winds(1) = 1; wind(0, 3) = 0");
        B.refused("Promise 26", "BEYOND: no such SHEET.",
            RICH, "put(-1, 0, 0) = BEYOND", "put(4, 0, 0) = BEYOND", "put(MIN, 0, 0) = BEYOND", "put(MAX, 0, 0) = BEYOND",
            "put(4, -1, 0) = BEYOND");
        B.refused("Promise 26", "NONE: it is missing.",
            RICH, "put(3, 0, 1) = NONE", "put(3, -1, 1) = NONE", "put(3, 24, 1) = NONE", "put(3, MIN, 1) = NONE",
            "put(3, MAX, 1) = NONE");
        B.refused("Promise 26", "NONE: it is missing.", RICH + "; sheet(0, 0, 5)", "put(0, 0, 1) = NONE", "put(0, 9, 1) = NONE");
        B.refused("Promise 26", "BEYOND: no such number.",
            RICH, "put(0, -1, 1) = BEYOND", "put(0, 3, 1) = BEYOND", "put(1, 4, 1) = BEYOND", "put(2, 2, 1) = BEYOND",
            "put(0, MIN, 1) = BEYOND", "put(0, MAX, 1) = BEYOND", "put(0, 23, 1) = BEYOND", "put(0, 24, 1) = BEYOND");
        B.refused("Promise 26", "BEYOND: no such number.",
            RICH + "; sheet(0, 8, 0); sheet(1, 8, 24)", "put(0, 0, 1) = BEYOND", "put(0, -1, 1) = BEYOND",
            "put(1, 24, 1) = BEYOND");
    }

    /** Numbers 10, 20, .. 50 in SHEET 0; three in SHEET 1, of 16 bits both; SHEET 2 is of 8. */
    private static final String ROWS = "sheet(0, 16, 5); sheet(1, 16, 3); sheet(2, 8, 5); put(0, 0, 10); put(0, 1, 20); put(0, 2, 30); "
        + "put(0, 3, 40); put(0, 4, 50)";

    /** A move, and what stands in a SHEET behind it. */
    private static String moved(String move, int sheet, int... numbers) {
        StringBuilder run = new StringBuilder(ROWS + "; " + move + "; winds(" + sheet + ") = " + numbers.length);
        for (int i = 0; i < numbers.length; i++) {
            run.append("; wind(" + i + ", 3) = " + numbers[i]);
        }
        return run.toString();
    }

    private static void move() {
        B.test("Promise 27",
            "n numbers of a SHEET, from number i on, come to another one (or the same), from its number j on, as they "
                + "all were: n.",
            moved("move(0, 0, 1, 0, 3) = 3", 1, 10, 20, 30), moved("move(0, 2, 1, 0, 3) = 3", 1, 30, 40, 50),
            moved("move(0, 3, 1, 1, 2) = 2", 1, 0, 40, 50), moved("move(0, 4, 1, 2, 1) = 1", 1, 0, 0, 50),
            moved("move(0, 0, 0, 1, 4) = 4", 0, 10, 10, 20, 30, 40), moved("move(0, 1, 0, 0, 4) = 4", 0, 20, 30, 40, 50, 50),
            moved("move(0, 0, 0, 0, 5) = 5", 0, 10, 20, 30, 40, 50), moved("move(0, 0, 0, 4, 1) = 1", 0, 10, 20, 30, 40, 10),
            moved("move(1, 0, 0, 1, 3) = 3", 0, 10, 0, 0, 0, 50), moved("move(0, 0, 1, 0, 3) = 3", 0, 10, 20, 30, 40, 50),
            moved("move(0, 0, 1, 0, 0) = 0", 1, 0, 0, 0), moved("move(0, 5, 1, 3, 0) = 0", 1, 0, 0, 0),
            "sheet(0, 32, 24); sheet(3, 32, 24); put(0, 0, 12); put(0, 23, 13); move(0, 0, 3, 0, 24) = 24; winds(3) = 24; "
                + "wind(0, 3) = 12; wind(23, 3) = 13",
            "sheet(0, 8, 0); move(0, 0, 0, 0, 0) = 0; sheet(1, 8, 2); move(0, 0, 1, 2, 0) = 0; move(1, 2, 0, 0, 0) = 0");
        String rows = RICH + "; " + ROWS;
        B.refused("Promise 27", "BEYOND: no such SHEET.",
            rows, "move(-1, 0, 0, 0, 0) = BEYOND", "move(4, 0, 0, 0, 0) = BEYOND", "move(0, 0, -1, 0, 0) = BEYOND",
            "move(0, 0, 4, 0, 0) = BEYOND", "move(3, 0, 4, 0, 0) = BEYOND", "move(4, 0, 3, 0, 0) = BEYOND",
            "move(4, -1, 4, -1, -1) = BEYOND");
        B.refused("Promise 27", "BEYOND: no such SHEET.", rows, Boundaries.farOutside("move(0, 0, 1, 0, 1)", "BEYOND", "", "BEYOND"));
        B.refused("Promise 27", "NONE: one is missing.",
            rows, "move(3, 0, 0, 0, 0) = NONE", "move(0, 0, 3, 0, 0) = NONE", "move(3, 0, 3, 0, 0) = NONE",
            "move(3, -1, 2, -1, -1) = NONE", "move(2, 9, 3, 9, 9) = NONE");
        B.refused("Promise 27", "KIND: they are of unlike bits.",
            rows + "; sheet(3, 32, 5)", "move(0, 0, 2, 0, 0) = KIND", "move(2, 0, 0, 0, 1) = KIND", "move(0, 0, 3, 0, 1) = KIND",
            "move(3, 0, 2, 0, 1) = KIND", "move(0, -1, 2, 0, 0) = KIND", "move(0, 9, 2, 9, 9) = KIND",
            "move(0, 0, 2, 0, -1) = KIND");
        String sentence = "BEYOND: n, i, or j is below 0, or they don't stand there (n 0, too).";
        B.refused("Promise 27", sentence,
            rows, "move(0, 0, 1, 0, -1) = BEYOND", "move(0, -1, 1, 0, 1) = BEYOND", "move(0, 0, 1, -1, 1) = BEYOND",
            "move(0, -1, 1, 0, 0) = BEYOND", "move(0, 0, 1, -1, 0) = BEYOND", "move(0, 0, 1, 0, 4) = BEYOND",
            "move(0, 3, 1, 0, 3) = BEYOND", "move(0, 0, 1, 1, 3) = BEYOND", "move(0, 5, 1, 0, 1) = BEYOND",
            "move(0, 0, 1, 3, 1) = BEYOND", "move(0, 6, 1, 0, 0) = BEYOND", "move(0, 0, 1, 4, 0) = BEYOND",
            "move(0, 0, 0, 1, 5) = BEYOND", "move(0, 1, 0, 0, 5) = BEYOND", "move(0, 0, 0, 0, 6) = BEYOND",
            "move(1, 0, 0, 3, 3) = BEYOND", "move(1, 1, 0, 0, 3) = BEYOND", "move(0, MAX, 1, 0, MAX) = BEYOND",
            "move(0, 1, 1, 1, MAX) = BEYOND", "move(0, MIN, 1, MIN, MIN) = BEYOND", "move(0, 2, 1, 0, -2) = BEYOND",
            "move(0, MAX, 1, MAX, 1) = BEYOND");
        B.refused("Promise 27", sentence,
            rows, Boundaries.farOutside("move(0, 0, 1, 0, 1)", "", "BEYOND", "", "BEYOND", "BEYOND"));
        B.refused("Promise 27", sentence,
            rows, Boundaries.farOutside("move(0, 0, 1, 0, 0)", "", "BEYOND", "", "BEYOND"));
    }

    private static void winds() {
        B.test("Promise 28",
            "Numbers of a SHEET are WIND (kw) of HOURS 0, 1, .. of the day: how many came, up to the first that wind() "
                + "would refuse (no ERROR then), or the 24th.",
            "sheet(0, 16, 0); winds(0) = 0; wind(0, 3) = 103",
            "sheet(0, 16, 1); put(0, 0, 403); winds(0) = 1; wind(0, 3) = 403; wind(1, 3) = 103",
            "sheet(0, 16, 24); put(0, 23, 402); winds(0) = 24; wind(23, 3) = 402; wind(0, 3) = 0; wind(22, 3) = 0",
            "sheet(0, 16, 24); put(0, 0, 403); put(0, 1, 404); put(0, 2, 12); winds(0) = 1; wind(0, 3) = 403; "
                + "wind(1, 3) = 103; wind(2, 3) = 103; told(1) = 0",
            "sheet(0, 16, 3); put(0, 0, 4); winds(0) = 0; wind(0, 3) = 103; wind(1, 3) = 103; told(1) = 0",
            "sheet(0, 16, 3); put(0, 2, 410); winds(0) = 2; put(0, 2, 409); winds(0) = 2; put(0, 2, -1); winds(0) = 2; "
                + "put(0, 2, 9); winds(0) = 2; put(0, 2, 403); winds(0) = 3; told(1) = 0",
            "sheet(0, 16, 24); put(0, 23, 404); winds(0) = 23; wind(23, 3) = 103; wind(22, 3) = 0",
            "sheet(0, 8, 2); put(0, 0, 123); put(0, 1, 131); winds(0) = 1; wind(0, 3) = 123",
            "sheet(0, 32, 1); put(0, 0, MAX); winds(0) = 0; put(0, 0, MIN); winds(0) = 0; put(0, 0, 400); winds(0) = 1; "
                + "wind(0, 3) = 400",
            "hours(30); sheet(0, 16, 1); put(0, 0, 12); winds(0) = 1; wind(0, 3) = 12; count(2) = 10");
        B.refused("Promise 28", "BEYOND.", RICH, "winds(-1) = BEYOND", "winds(4) = BEYOND", "winds(MIN) = BEYOND", "winds(MAX) = BEYOND");
        B.refused("Promise 28", "NONE.", RICH, "winds(3) = NONE");
        B.refused("Promise 28", "NONE.", NEW, "winds(0) = NONE", "winds(1) = NONE", "winds(2) = NONE", "winds(3) = NONE");
    }

    private static void judge() {
        String sentence = "Numbers of a SHEET are what all BOATS take, by numbers, now: the first BOAT whose number isn't so "
            + "(one without a number, too); as many as there are BOATS: none.";
        B.test("Promise 29", sentence,
            "sheet(0, 8, 0); judge(0) = 0; boat(0, 0); judge(0) = 0; sheet(0, 8, 1); judge(0) = 1",
            "sheet(0, 8, 24); judge(0) = 0; 8 x boat(0, 0); judge(0) = 8; put(0, 7, 1); judge(0) = 7; put(0, 0, 1); judge(0) = 0",
            "sheet(0, 8, 7); 8 x boat(0, 0); judge(0) = 7; sheet(0, 8, 8); judge(0) = 8",
            "boat(10, 1); boat(10, 0); sheet(0, 8, 2); put(0, 0, 2); judge(0) = 1; put(0, 1, 5); judge(0) = 2; "
                + "put(0, 1, 4); judge(0) = 1; put(0, 1, 6); judge(0) = 1; put(0, 0, 3); judge(0) = 0",
            "boat(39, 0); wind(0, 403); sheet(0, 8, 1); put(0, 0, 29); judge(0) = 1; wind(1, 3); hours(1); judge(0) = 0",
            "boat(10, 0); set(0, 4, 0); sheet(0, 8, 3); judge(0) = 1; put(0, 2, 77); judge(0) = 1",
            "boat(10, 0); sheet(0, 32, 1); put(0, 0, 5); judge(0) = 1; put(0, 0, 261); judge(0) = 0; sheet(1, 8, 1); "
                + "put(1, 0, 261); judge(1) = 1");
        B.leaves("Promise 29", sentence, RICH, "judge(0)", "judge(1)", "judge(2)");
        B.refused("Promise 29", "BEYOND.", RICH, "judge(-1) = BEYOND", "judge(4) = BEYOND", "judge(MIN) = BEYOND", "judge(MAX) = BEYOND");
        B.refused("Promise 29", "NONE.", RICH, "judge(3) = NONE");
        B.refused("Promise 29", "NONE.", NEW, "judge(0) = NONE", "judge(3) = NONE");
    }

    private static void image() {
        String sentence = "All (but SHEETS, THE TRACE, what told() tells, and how often this was done) is kept as an IMAGE, in place "
            + "of one ahead: how often that was done.";
        B.test("Promise 30", sentence,
            "image() = 1; image() = 2; restore() = 0; image() = 3; restore() = 0; restore() = 0; image() = 4",
            "image(); boat(10, 0); image() = 2; boat(10, 0); restore(); count(0) = 1",
            "sheet(0, 8, 2); image(); sheet(0, 16, 3); sheet(1, 8, 1); restore(); winds(0) = 3; winds(1) = 1",
            "sheet(0, 8, 2); put(0, 0, 12); image(); put(0, 0, 13); restore(); winds(0) = 2; wind(0, 3) = 13",
            "sheet(0, 8, 2); image(); sheet(0, 0, 0); restore(); winds(0) = NONE",
            "boat(10, 0); voice(0, 0, 1); image(); voice(0, 1, 1); restore(); count(8) = 3; body(0) = 11",
            "boat(10, 0); image(); voice(0, 0, 1); restore(); count(8) = 2",
            "image(); told(7); body(0); restore(); told(1) = 1; told(2) = 1");
        B.leaves("Promise 30", sentence, LATE, "blows(0)", "count(1) = 9999");
    }

    private static void restore() {
        String sentence = "All is as the IMAGE has it, which stays: HOUR.";
        B.test("Promise 31", sentence,
            "image(); restore() = 0",
            "hours(7); image(); hours(5); restore() = 7; count(1) = 7; hours(9); restore() = 7; restore() = 7; count(1) = 7",
            "41 x hours(240); hours(159); image(); restore() = 9999; hours(1) = STATE",
            "image(); 41 x hours(240); hours(159); hours(1) = STATE; restore() = 0; hours(240); count(1) = 240",
            "image(); wind(0, 12); wind(23, 12); restore(); wind(0, 3) = 103; wind(23, 3) = 103",
            "image(); price(0, 9); price(3, 9); restore(); count(10) = 3; count(13) = 3",
            "image(); 8 x boat(10, 0); restore(); count(0) = 0; boatIs(0, 0) = BEYOND; boat(20, 3) = 0; boatIs(0, 0) = 2",
            "8 x boat(60, 0); image(); hours(3); set(7, 0, 1); set(7, 1, 5); set(7, 2, 9); set(7, 3, 0); set(7, 4, 9); "
                + "set(7, 7, 1); restore(); boatIs(7, 0) = 6; boatIs(7, 1) = 0; boatIs(7, 2) = 0; boatIs(7, 3) = 1; "
                + "boatIs(7, 4) = 99; boatIs(7, 5) = 0; boatIs(7, 6) = 0; boatIs(7, 7) = 0; boatIs(0, 6) = 0",
            "boat(60, 0); hours(3); set(0, 7, 1); set(0, 4, 9); set(0, 3, 0); image(); set(0, 7, 0); set(0, 4, 8); "
                + "set(0, 3, 2); hours(1); restore(); boatIs(0, 5) = 27; boatIs(0, 6) = 9; boatIs(0, 7) = 1; boatIs(0, 4) = 9; "
                + "boatIs(0, 3) = 0",
            "image(); seed(7); restore(); count(9) = 1", "seed(7); image(); loose(9); restore(); count(9) = 7",
            "image(); tell(1); restore(); count(7) = 0",
            "boat(0, 4); tell(4); tell(4); image(); tell(5); check(0) = 3; restore(); count(7) = 2; check(0) = 0",
            "tape('1+'); image(); tape('2'); text(0) = 1; restore(); count(6) = 2; text(0) = -12",
            "image(); tape('2'); restore(); count(6) = 0",
            "tape('b+'); image(); text(0) = -12; tape('12x'); restore(); count(6) = 2; feed(0x6D, 1) = 3; restore(); count(6) = 2; "
                + "feed(0x29, 1) = 3; text(0) = -12",
            "boat(60, 0); tape('" + SIXTY + "9'); image(); text(0) = 1; tape('" + SIXTY + "x'); restore(); count(6) = 60; "
                + "text(1) = 1; hours(1) = 38",
            "boat(0, 4); tell(4); image(); check(0) = 0; tell(9); tell(9); restore(); tell(4) = 2; restore(); tell(5) = 2; check(0) = 2",
            "boat(0, 4); 24 x tell(4); image(); check(0) = 0; 24 x tell(5); restore(); tell(4) = FULL; check(0) = 0",
            "boat(60, 0); law(0, '4'); law(1, '7'); image(); law(0, '5'); untell(1); restore(); boatIs(0, 8) = 4; "
                + "hours(1) = 7; untell(0) = 1; untell(1) = 1",
            "boat(60, 0); image(); law(0, '4'); law(1, '7'); restore(); boatIs(0, 8) = 3; untell(0) = 0; untell(1) = 0",
            "boat(10, 0); image(); set(0, 1, 9); price(0, 5); restore(); set(0, 1, 8); price(0, 6); wind(0, 12); restore(); "
                + "boatIs(0, 1) = 0; count(10) = 3; count(2) = 10");
        B.leaves("Promise 31", sentence,
            "boat(64, 7); boat(10, 8); boat(20, 21); law(0, 'b-m'); hours(5); tell(22); tape('b*'); voice(1, 3, 7); image()",
            "restore() = 5");
        B.leaves("Promise 31", sentence, RICH + "; image()", "restore() = 6", "hours(1)", "wind(3, 3)", "boat(0, 0)", "restore() = 6");
        B.refused("Promise 31", "NONE: there is none.", NEW, "restore() = NONE");
        B.refused("Promise 31", "NONE: there is none.",
            "boat(64, 7); boat(10, 8); boat(20, 21); price(0, 9); hours(5); tell(22); tape('b*')", "restore() = NONE");
    }

    private static void tell() {
        B.test("Promise 32", "One more number waits: how many.",
            "count(7) = 0; tell(0) = 1; tell(MIN) = 2; tell(MAX) = 3; count(7) = 3", "23 x tell(5); tell(5) = 24; count(7) = 24",
            "boat(0, 0); tell(24) = 1; check(0) = 1; tell(-1) = 1");
        B.refused("Promise 32", "FULL: 24 wait.",
            RICH + "; 20 x tell(18); tell(18) = 24", "tell(18) = FULL", "tell(MIN) = FULL", "tell(MAX) = FULL");
        B.test("Promise 32", "FULL: 24 wait.",
            "24 x tell(0); 3 x tell(0) = FULL; count(7) = 24; told(4) = 3; boat(0, 0); check(0) = 0; tell(0) = 1",
            "boat(0, 0); 23 x tell(0); tell(1) = 24; tell(0) = FULL; check(0) = 24");
    }

    private static void check() {
        B.test("Promise 33", "The numbers that wait (none do then) are CELLS of a BOAT behind 1, 2, .. HOURS AHEAD: 0;",
            "boat(20, 3); check(0) = 0; tell(4); check(0) = 0; count(7) = 0; check(0) = 0",
            "boat(20, 3); tell(4); tell(5); tell(5); tell(4); tell(3); tell(2); tell(1); tell(0); tell(0); tell(1); "
                + "check(0) = 0; count(7) = 0; count(1) = 0; boatIs(0, 2) = 3",
            "boat(0, 23); 24 x tell(23); check(0) = 0; count(7) = 0", "8 x boat(20, 3); tell(4); check(7) = 0",
            "boat(10, 0); tell(1); tell(2); check(0) = 0; wind(1, 3); tell(1); tell(1); tell(2); check(0) = 0; tell(1); "
                + "tell(2); check(0) = 2",
            "boat(20, 0); 41 x hours(240); hours(159); boatIs(0, 2) = 3; tell(4); tell(5); tell(5); tell(4); check(0) = 0; "
                + "count(1) = 9999");
        B.test("Promise 33", "else 1 and the place (from 0) of the first that isn't so.",
            "boat(20, 3); tell(3); check(0) = 1; count(7) = 0",
            "boat(20, 3); tell(4); tell(4); tell(9); check(0) = 2; count(7) = 0",
            "boat(0, 23); 23 x tell(23); tell(22); check(0) = 24",
            "boat(0, 23); 23 x tell(23); tell(24); check(0) = 24; count(7) = 0",
            "boat(20, 3); tell(MIN); check(0) = 1; tell(MAX); check(0) = 1; tell(-1); check(0) = 1; told(1) = 0",
            "boat(0, 0); tell(0); tell(1); tell(0); check(0) = 2");
        B.test("Promise 33", "BEYOND (none wait then, too).",
            "check(0) = BEYOND; tell(1); check(0) = BEYOND; count(7) = 0; told(1) = 2",
            "boat(0, 0); 24 x tell(0); check(1) = BEYOND; count(7) = 0; tell(0) = 1; check(-1) = BEYOND; count(7) = 0; check(0) = 0");
        for (String boat : new String[] {"-1", "3", "7", "8", "MIN", "MAX"}) {
            B.refusedBut("Promise 33", "BEYOND (none wait then, too).", RICH, "check(" + boat + ") = BEYOND", "check(0)");
        }
        B.refusedBut("Promise 33", "BEYOND (none wait then, too).", CROWDED, "check(8) = BEYOND", "check(7)");
        B.leaves("Promise 33", "The numbers that wait (none do then) are CELLS of a BOAT behind 1, 2, .. HOURS AHEAD: 0;",
            RICH + "; check(2) = 0", "check(0) = 0", "tell(3)", "check(1) = 1");
    }

    private static void count() {
        String sentence = "0 BOATS, 1 HOUR, 2 KNOTS now, 3 the WAY now, 4 what all OWE, 5 what all USED, 6 bytes of THE TAPE, 7 "
            + "numbers that wait, 8 BODIES in THE TRACE, 9 z (any number), 10 .. 13 PRICE of QUARTER 0 .. 3.";
        B.test("Promise 34", sentence,
            "boat(10, 0); boat(20, 6); wind(1, 291); hours(1); price(0, 40); price(1, 41); price(2, 42); price(3, 43); "
                + "tape('abcde'); tell(1); tell(1); voice(0, 1, 1); seed(BEYOND); count(0) = 2; count(1) = 1; count(2) = 29; "
                + "count(3) = 1; count(4) = 16; count(5) = 5; count(6) = 5;"
                + "count(7) = 2; count(8) = 3; count(9) = BEYOND; count(10) = 40; count(11) = 41; count(12) = 42; count(13) = 43; "
                + "told(1) = 0",
            "8 x boat(60, 0); count(0) = 8; count(4) = 0", "24 x tell(0); 7 x feed(0, 8); feed(0, 4); count(6) = 60; count(7) = 24",
            "seed(MIN); count(9) = MIN; seed(MAX); count(9) = MAX; seed(PARTED); count(9) = PARTED; told(6) = 0",
            "boat(49, 0); boat(49, 0); wind(0, 3); hours(1); count(4) = -18; count(5) = 0",
            "wind(0, 403); count(2) = 40; wind(0, 0); count(2) = 0; count(3) = 0; price(0, 99); price(3, 0); "
                + "count(10) = 99; count(13) = 0");
        B.leaves("Promise 34", sentence, RICH, "count(0) = 3", "count(13) = 8");
        B.refused("Promise 34", "BEYOND.", RICH, "count(-1) = BEYOND", "count(14) = BEYOND", "count(MIN) = BEYOND", "count(MAX) = BEYOND");
    }

    private static void told() {
        B.test("Promise 35", "How many acts have answered an ERROR LOW - k (k 1 .. 6);",
            "told(1) = 0; told(6) = 0; count(14); told(1) = 1; body(0); body(0); told(2) = 2; 3 x sheet(0, 8, -1); "
                + "told(3) = 3; 28 x tell(0); told(4) = 4; boat(0, 0); 5 x as(0, 1); told(5) = 5; 6 x voice(0, 3, 1); "
                + "told(6) = 6; told(1) = 1; told(2) = 2",
            "boat(0, 0); text(0) = -10; law(0, 'x') = -10; winds(0) = NONE; sheet(0, 16, 1); put(0, 0, 4); winds(0) = 0; "
                + "told(1) = 0; told(2) = 1; told(3) = 0; told(4) = 0; told(5) = 0; told(6) = 0",
            "image(); count(14); restore(); told(1) = 1; image(); count(14); restore(); told(1) = 2",
            "boat(0, 0); voice(0, 0, NONE) = NONE; seed(FULL); seed(1) = FULL; told(2) = 0; told(4) = 0");
        B.leaves("Promise 35", "How many acts have answered an ERROR LOW - k (k 1 .. 6);",
            RICH, "told(1) = 0", "told(2) = 0", "told(3) = 0", "told(4) = 0", "told(5) = 0", "told(6) = 0");
        B.refused("Promise 35", "BEYOND: another k (counted, too).",
            RICH, "told(0) = BEYOND", "told(7) = BEYOND", "told(-1) = BEYOND", "told(MIN) = BEYOND", "told(MAX) = BEYOND");
        B.test("Promise 35", "BEYOND: another k (counted, too).",
            "told(0) = BEYOND; told(1) = 1; told(7) = BEYOND; told(1) = 2; told(1) = 2; told(-1) = BEYOND; told(1) = 3; told(6) = 0");
    }
}
