/** Sentences on TEXTS, and promises 11 to 13: edges, what lies outside, and refused calls. */
public final class BoundsTextsTest {
    private static final Boundaries B = new Boundaries("bounds of texts");
    private static final String RICH = Boundaries.RICH;
    private static final String NEW = Boundaries.NEW;
    private static final String SIXTY = "1+".repeat(28) + "1111";

    public static void main(String[] args) throws Exception {
        tape();
        signs();
        simple();
        open();
        numbers();
        faults();
        grinds();
        bill();
        feed();
        text();
        untell();
        B.end("Part 2", "Promise 11", "Promise 12", "Promise 13");
    }

    /** A TEXT as the BILL of 10 knots, at PRICE 3, in an HOUR of 20 KNOTS: what it gives. */
    private static String gives(String text, int value) {
        return "boat(10, 0); wind(0, 203); law(1, '" + text + "') = 1; hours(1) = " + value;
    }

    /** A TEXT as a BILL: the place of its FAULT. */
    private static String fault(String text, int place) {
        return "law(1, '" + text + "') = " + (-10 - place) + "; count(6) = 0; untell(1) = 0; told(1) = 0";
    }

    // ---- Part 2

    private static void tape() {
        B.test("Part 2", "TEXTS are read from THE TAPE (bytes, at most 60):",
            "text(0) = -10", "feed(49, 1) = 1; count(6) = 1; text(0) = 1; count(6) = 0",
            gives(SIXTY, 28 + 1111),
            "tape('" + SIXTY + "') = 60; feed(49, 1) = FULL; count(6) = 60; text(1) = 1",
            "tape('" + SIXTY.substring(1) + "') = 59; feed(0x3131, 2) = FULL; count(6) = 59; feed(49, 1) = 60");
    }

    private static void signs() {
        B.test("Part 2", "T: A { | A }.",
            gives("7", 7), gives("0|0", 0), gives("0|2", 1), gives("2|0", 1), gives("0|0|0|7", 1), gives("1|1&0", 1), gives("0&0|1", 1),
            fault("t|", 2), fault("|t", 0), fault("t||p", 2), fault("t|&p", 2));
        B.test("Part 2", "A: B { & B }.",
            gives("2&3", 1), gives("2&0", 0), gives("0&2", 0), gives("2&3&4&0", 0), gives("1<2&3<4", 1), gives("1<2&4<4", 0),
            fault("t&", 2), fault("&t", 0), fault("t&&p", 2));
        B.test("Part 2", "B: S, or S < S, S = S, S > S.",
            gives("1<2", 1), gives("2<2", 0), gives("3<2", 0), gives("2=2", 1), gives("2=3", 0), gives("3>2", 1), gives("2>2", 0),
            gives("1>2", 0), gives("1+1=2", 1), gives("2=1+1", 1), gives("(t<p)<k", 1), gives("t<(p<k)", 0), gives("1<2|1<0", 1),
            fault("t<p<k", 3), fault("t<p=k", 3), fault("t=p>k", 3), fault("t>p<k", 3), fault("t<p+1<k", 5), fault("t<p&p<k=k", 7),
            fault("(t<p<k", 4), fault("t<", 2), fault("<t", 0), fault("t<=p", 2), fault("t=<p", 2), fault("t==p", 2),
            fault("t>!p>k", 4));
        B.test("Part 2", "S: P { + P, - P }.",
            gives("1-2-3", -4), gives("1-2+3", 2), gives("1+2-3+4", 4), gives("7-2*3", 1), gives("2*3-7", -1),
            fault("t+", 2), fault("+t", 0), fault("-1", 0), fault("t+-1", 2), fault("t--1", 2), fault("t++t", 2));
        B.test("Part 2", "P: Q { * Q, / Q, % Q }.",
            gives("2+3*4", 14), gives("2*3+4", 10), gives("100/7/2", 7), gives("100%7*2", 4), gives("2*7%4", 2), gives("7/2*2", 6),
            gives("2*2*2*2*2", 32), gives("9%5%3", 1), fault("t*", 2), fault("*t", 0), fault("/t", 0), fault("%t", 0),
            fault("t*-1", 2), fault("t**p", 2), fault("t/%p", 2), fault("t%", 2));
    }

    private static void simple() {
        B.test("Part 2", "Q: a NUMBER of 1 to 4 digits, a NAME, ! Q, ( T ).",
            gives("0", 0), gives("9", 9), gives("12", 12), gives("123", 123), gives("9999", 9999), gives("0000", 0),
            gives("0009", 9), gives("0900", 900), fault("12345", 4), fault("00001", 4), fault("1+23456", 6), fault("(99999", 5),
            fault("!00000", 5), gives("t", 10), gives("p", 3), gives("k", 20), fault("b", 0), fault("h", 0), fault("m", 0),
            fault("x", 0), fault("T", 0), fault("K", 0), fault("tp", 1), fault("t1", 1), fault("1t", 1), fault("t(1)", 1),
            fault("(1)2", 3), fault("(1)(2)", 3), fault("(1)t", 3), fault("1(", 1), gives("!t", 0), gives("!!t", 1), gives("!0", 1),
            gives("!0+1", 2), gives("!0*7", 7), gives("!(1<0)", 1), gives("!t=0", 1), fault("!", 1), fault("!)", 1),
            fault("!+t", 1), fault("t!", 1), fault("t!p", 1), fault("!t!t", 2), gives("(t)", 10), gives("((t))", 10),
            gives("2*(3+4)", 14), gives("(1|0)+(0|0)", 1), gives("(1<2)+(2<3)", 2), fault("()", 1), fault("(t", 2), fault("t)", 1),
            fault("(t))", 3), fault(")", 0), fault("(t|)", 3), fault("(,t)", 1), fault("t,p", 1));
        B.test("Part 2", "No blanks.",
            fault(" t", 0), fault("t ", 1), fault("t +p", 1), fault("t+ p", 2), fault("( t)", 1), fault("(t )", 2), fault("! t", 1),
            fault("1 2", 1), fault("t\t", 1), fault("t\n", 1));
    }

    private static void open() {
        B.test("Part 2", "At most 5 of ! and ( are open at once.",
            gives("!!!!!t", 0), fault("!!!!!!t", 5), gives("(((((t)))))", 10), fault("((((((t", 5), gives("!(!(!t))", 0),
            fault("!(!(!(t", 5), gives("(!(!(t)))", 1), fault("(!(!(!t", 5), gives("((((!t))))", 0), fault("(((((!t", 5),
            gives("!!!!(t)", 1), fault("!!!!!(t", 5), gives("!!!!!t+!!!!!t", 0), gives("(((((t)))))*(((((t)))))", 100),
            gives("(((((t)+(t)))))", 20), fault("(((((t+(t", 7), gives("((((!t)+!t)))", 0), fault("!!!!(t+!t", 7),
            gives("!!!!(t)+!!!!!t", 1), gives("!t+!!!!!t+(((((1)))))", 1), gives("((((t+!t+!t+(t)+(t)))))", 30),
            gives("!t+!t+!t+!t+!t+!t+!t", 0), gives("(t)+(t)+(t)+(t)+(t)+(t)+(t)", 70));
    }

    private static void numbers() {
        B.test("Part 2", "Ints that wrap;",
            gives("9999*9999*9999%9973", -1320), gives("2048*1024*1024<0", 1), gives("2048*1024*1024-1>0", 1),
            gives("0-2048*1024*1024<0", 1), gives("2048*1024*1024/(0-1)<0", 1), gives("2048*1024*1024%(0-1)", 0),
            gives("8192*8192*8192*8192", 0), gives("2048*1024*1024*2", 0), gives("2048*1024*1024-1+1<0", 1),
            gives("2048*1024*1023<0", 0));
        B.test("Part 2", "/ cut, % the rest that it leaves, both by 0 are 0;",
            gives("7/2", 3), gives("(0-7)/2", -3), gives("7/(0-2)", -3), gives("(0-7)/(0-2)", 3), gives("1/2", 0),
            gives("(0-1)/2", 0), gives("7%3", 1), gives("(0-7)%3", -1), gives("7%(0-3)", 1), gives("(0-7)%(0-3)", -1),
            gives("6%3", 0), gives("2%3", 2), gives("7/0", 0), gives("7%0", 0), gives("0/0", 0), gives("0%0", 0),
            gives("(0-7)/0", 0), gives("(0-7)%0", 0), gives("5+7/0", 5));
        B.test("Part 2", "| & < = > ! are 1 or 0, what is not 0 being true;",
            gives("7|8", 1), gives("7&8", 1), gives("(0-1)|0", 1), gives("0|(0-1)", 1), gives("(0-1)&(0-5)", 1), gives("!(0-1)", 0),
            gives("!9", 0), gives("!0", 1), gives("(7|8)+(7&8)", 2), gives("(5>3)*9", 9), gives("(3=3)*9", 9), gives("(3<5)*9", 9),
            gives("!0*9", 9), gives("(0-1)<0", 1), gives("0>(0-1)", 1), gives("(0-1)=(0-1)", 1), gives("2048*1024*1024|0", 1));
        B.test("Part 2", "all is worked out.", gives("1|7/0", 1), gives("0&7%0", 0), gives("1|0|t/(t-10)", 1), gives("(0&t/0)+4", 4));
    }

    private static void faults() {
        B.test("Part 2", "FAULT: the place of the first byte with which no TEXT goes on;",
            fault("x", 0), fault("tx", 1), fault("t+x", 2), fault("t+p*x", 4), fault("((t+x", 4), fault("t+pp+x", 3),
            fault("123456", 4), fault("12x456", 2), fault("t<p<k<", 3), fault("1)+)", 1), fault("t+p)", 3), fault("t@", 1),
            fault("t/p?", 3), fault("t:", 1), fault("/", 0), fault("t^p", 1), fault("~t", 0),
            fault(SIXTY.substring(0, 59) + "x", 59), fault("1+".repeat(27) + "(((((", 59), fault("x" + SIXTY.substring(1), 0),
            "feed(0, 1) = 1; text(1) = -10", "feed(0x0031, 2) = 2; text(1) = -11", "feed(0xB1, 1) = 1; text(1) = -10",
            "feed(0xF4, 1) = 1; text(1) = -10", "feed(0xFF31, 2) = 2; text(1) = -11", "feed(0x80, 1) = 1; text(1) = -10",
            "feed(0xFF, 1) = 1; text(0) = -10", "feed(0x2F, 1) = 1; text(0) = -10", "feed(0x3A, 1) = 1; text(0) = -10",
            "feed(0x30, 1) = 1; text(0) = 1", "feed(0x39, 1) = 1; text(0) = 1");
        B.test("Part 2", "how many there are, if it ends too early.",
            fault("", 0), fault("(", 1), fault("!", 1), fault("1+", 2), fault("(1", 2), fault("((1)", 4), fault("(1<2", 4),
            fault("(1234", 5), fault("t<", 2), fault("!!!!!", 5), fault("(((((", 5), fault("1+".repeat(29) + "1+", 60),
            fault("1+".repeat(27) + "(((((1", 60), fault("1+".repeat(29) + "(1", 60), fault("1+".repeat(29) + "!", 59));
    }

    private static void grinds() {
        B.test("Part 2", "USES: 0 GRINDS (of a MILL): NAMES b what (still) blows, h the HOUR of the day, m m; without a TEXT b/3.",
            "boat(60, 0); boat(60, 0); boat(60, 1); wind(0, 403); law(0, 'b/2'); boatIs(0, 8) = 20; boatIs(1, 8) = 10; "
                + "boatIs(2, 8) = 5",
            "boat(60, 0); boat(60, 1); law(0, 'b'); boatIs(0, 8) = 10; boatIs(1, 8) = 0; wind(0, 3); boatIs(0, 8) = 0; "
                + "wind(0, 403); boatIs(0, 8) = 40",
            "boat(60, 0); law(0, 'b=0'); wind(0, 3); boatIs(0, 8) = 0; law(0, 'b=40'); wind(0, 403); boatIs(0, 8) = 1",
            "boat(60, 0); law(0, 'h'); wind(23, 403); boatIs(0, 8) = 0; then(1, 0, 8) = 1; then(23, 0, 8) = 23; "
                + "then(24, 0, 8) = 0; then(25, 0, 8) = 1",
            "boat(60, 0); law(0, 'h'); wind(15, 403); 41 x hours(240); hours(159); boatIs(0, 8) = 15; then(9, 0, 8) = 0; "
                + "then(10, 0, 8) = 1",
            "boat(60, 0); boat(69, 6); law(0, 'm'); boatIs(0, 8) = 0; boatIs(1, 8) = 9",
            "law(0, 't') = -10; law(0, 'p') = -10; law(0, 'k') = -10; law(0, 'b+t') = -12; law(0, 'B') = -10; law(0, 'bhm') = -11",
            "boat(60, 0); wind(0, 23); boatIs(0, 8) = 0; wind(0, 33); boatIs(0, 8) = 1; wind(0, 403); boatIs(0, 8) = 13; "
                + "wind(0, 3); boatIs(0, 8) = 0",
            "boat(10, 0); boat(39, 6); boat(50, 12); law(0, '1') = 1; boatIs(0, 8) = 5; boatIs(1, 8) = 10; boatIs(2, 8) = 2");
    }

    private static void bill() {
        B.test("Part 2", "1 BILL (for what was taken): t knots taken, p PRICE, k KNOTS of this HOUR;",
            gives("t", 10), gives("p", 3), gives("k", 20), gives("t*p+k", 50),
            "boat(60, 0); law(1, 'p'); price(0, 0); hours(1) = 0; price(0, 99); hours(1) = 99",
            "boat(60, 6); law(1, 'p'); price(0, 50); price(1, 7); price(2, 60); hours(1) = 7",
            "boat(10, 5); set(0, 3, 2); law(1, 'p'); price(1, 50); hours(1) = 3; boatIs(0, 2) = 11; hours(1) = 53",
            "boat(60, 0); law(1, 'k'); wind(0, 403); wind(1, 33); hours(1) = 40; hours(1) = 43",
            "boat(60, 0); boat(60, 1); law(1, 'k'); hours(1) = 20; law(1, 't'); hours(1) = 25",
            "boat(39, 0); law(1, 't'); wind(0, 403); hours(1) = 29",
            "law(1, 'b') = -10; law(1, 'h') = -10; law(1, 'm') = -10; law(1, 't+b') = -12");
        B.test("Part 2", "held within -9999 .. 9999;",
            gives("9998", 9998), gives("9999", 9999), gives("9998+1", 9999), gives("9999+1", 9999), gives("9999*9999", 9999),
            gives("2048*1024*1024-1", 9999), gives("0-9998", -9998), gives("0-9999", -9999), gives("0-9999-1", -9999),
            gives("0-9999*9999", -9999), gives("2048*1024*1024", -9999));
        B.test("Part 2", "without a TEXT t*p, less 2*t, if k is above 30.",
            "boat(10, 0); wind(0, 303); hours(1) = 45", "boat(10, 0); wind(0, 313); hours(1) = 15",
            "boat(10, 0); wind(0, 403); hours(1) = 20", "boat(10, 0); wind(0, 293); hours(1) = 42",
            "boat(10, 0); wind(0, 313); price(0, 0); hours(1) = -30", "boat(10, 0); wind(0, 303); price(0, 0); hours(1) = 0",
            "boat(10, 0); wind(0, 313); price(0, 2); hours(1) = 0", "boat(10, 0); wind(0, 313); price(0, 1); hours(1) = -15",
            "boat(10, 0); wind(0, 403); price(0, 99); hours(1) = 1940",
            "boat(39, 0); boat(10, 1); wind(0, 403); hours(1) = 34; boatIs(0, 5) = 29; boatIs(1, 5) = 5",
            "boat(60, 0); law(1, 't*p'); wind(0, 403); hours(1) = 39; untell(1) = 1; wind(1, 403); hours(1) = 52");
    }

    // ---- Promises

    private static void feed() {
        B.test("Promise 11", "The n lowest bytes (1 .. 8) of a word, the lowest first, come to THE TAPE: how many there are.",
            "feed(0x74, 1) = 1; feed(0x702A, 2) = 3; count(6) = 3; boat(10, 0); text(1) = 1; hours(1) = 15",
            "feed(0x322D31, 3) = 3; boat(60, 0); text(1) = 1; hours(1) = -1",
            "feed(0x7878702B74, 3) = 3; boat(10, 0); text(1) = 1; hours(1) = 8", "feed(0x312B312B312B312B, 8) = 8; text(1) = -10",
            "feed(0x32312B312B312B31, 8) = 8; boat(60, 0); text(1) = 1; hours(1) = 15",
            "feed(0xFF312B312B312B31, 8) = 8; text(1) = -17", "feed(0xFF2B312B312B312B, 7) = 7; text(1) = -10",
            "feed(0x80002B312B312B31, 6) = 6; text(1) = -16", "feed(-1, 1) = 1; text(1) = -10",
            "feed(0x3131313131313131, 1) = 1; feed(0, 1) = 2; text(1) = -11", "7 x feed(0, 8); count(6) = 56; feed(0, 4) = 60",
            "feed(0, 1) = 1; feed(0, 2) = 3; feed(0, 3) = 6; feed(0, 4) = 10; feed(0, 5) = 15; feed(0, 6) = 21; "
                + "feed(0, 7) = 28; feed(0, 8) = 36");
        B.refused("Promise 11", "BEYOND.",
            RICH, "feed(0x31, 0) = BEYOND", "feed(0x31, 9) = BEYOND", "feed(0x31, -1) = BEYOND", "feed(0x31, MIN) = BEYOND",
            "feed(0x31, MAX) = BEYOND");
        B.refused("Promise 11", "BEYOND.", NEW, "feed(0, 0) = BEYOND", "feed(0, 9) = BEYOND");
        String sixty = RICH + "; tape('" + SIXTY.substring(3) + "') = 60";
        String fiftysix = RICH + "; tape('" + SIXTY.substring(7) + "') = 56";
        B.refused("Promise 11", "FULL.",
            sixty, "feed(0x31, 1) = FULL", "feed(0x31, 8) = FULL", "feed(0x31, 0) = BEYOND", "feed(0x31, 9) = BEYOND");
        B.refused("Promise 11", "FULL.", fiftysix, "feed(0x31, 5) = FULL", "feed(0x31, 8) = FULL", "feed(0x31, 9) = BEYOND");
        B.test("Promise 11", "FULL.",
            "7 x feed(0, 8); feed(0, 5) = FULL; count(6) = 56; feed(0, 4) = 60; feed(0, 1) = FULL; feed(0, 8) = FULL; "
                + "count(6) = 60; told(4) = 3",
            "6 x feed(0, 8); feed(0, 4) = 52; feed(0, 8) = 60; feed(0, 1) = FULL",
            "60 x feed(49, 1); feed(49, 1) = FULL; text(0) = -14; feed(49, 1) = 1");
    }

    private static void text() {
        B.test("Promise 12", "THE TAPE, which is empty then, is the TEXT of a USE (0, 1), in place of one ahead: 1.",
            "tape('b'); text(0) = 1; count(6) = 0; text(0) = -10; untell(0) = 1; untell(1) = 0",
            "tape('t'); text(1) = 1; count(6) = 0; untell(1) = 1; untell(0) = 0",
            "boat(60, 0); law(0, '4') = 1; boatIs(0, 8) = 4; law(0, '6') = 1; boatIs(0, 8) = 6; law(1, '7') = 1; "
                + "boatIs(0, 8) = 6; hours(1) = 7; law(1, '8'); hours(1) = 15",
            "boat(60, 0); law(0, '4') = 1; tape('t'); boatIs(0, 8) = 4; text(1) = 1; boatIs(0, 8) = 4; hours(1) = 4",
            "law(0, '" + SIXTY + "') = 1; law(1, '" + SIXTY + "') = 1");
        B.refused("Promise 12", "BEYOND (THE TAPE stays).",
            RICH, "text(-1) = BEYOND", "text(2) = BEYOND", "text(MIN) = BEYOND", "text(MAX) = BEYOND");
        B.test("Promise 12", "BEYOND (THE TAPE stays).",
            "tape('b'); text(2) = BEYOND; text(-1) = BEYOND; count(6) = 1; text(0) = 1; told(1) = 2",
            "tape('+'); text(2) = BEYOND; count(6) = 1; text(0) = -10", "text(2) = BEYOND; count(6) = 0");
        B.test("Promise 12", "-10 less the FAULT (no ERROR; the one ahead stays; THE TAPE is empty, too).",
            "boat(60, 0); law(0, '4'); law(0, 'b+') = -12; boatIs(0, 8) = 4; count(6) = 0; told(1) = 0; told(2) = 0; "
                + "told(3) = 0; untell(0) = 1",
            "boat(60, 0); law(1, '4'); law(1, 'b') = -10; count(6) = 0; hours(1) = 4; law(1, '') = -10; hours(1) = 8; untell(1) = 1",
            "law(0, '" + "1+".repeat(30) + "') = -70; count(6) = 0; untell(0) = 0; feed(49, 1) = 1; text(0) = 1",
            "tape('b+'); text(1) = -10; count(6) = 0; tape('b'); text(0) = 1");
    }

    private static void untell() {
        B.test("Promise 13", "There is no TEXT of a USE any more: 1 if there was, else 0.",
            "untell(0) = 0; untell(1) = 0",
            "boat(60, 0); law(0, '4'); boatIs(0, 8) = 4; untell(1) = 0; boatIs(0, 8) = 4; untell(0) = 1; boatIs(0, 8) = 3; "
                + "untell(0) = 0",
            "boat(60, 0); law(1, '4'); hours(1) = 4; untell(0) = 0; hours(1) = 8; untell(1) = 1; hours(1) = 17; untell(1) = 0",
            "law(0, '4'); law(0, '5'); untell(0) = 1; untell(0) = 0", "tape('b'); untell(0) = 0; count(6) = 1; text(0) = 1",
            "law(0, '4'); law(1, '4'); image(); untell(0) = 1; untell(1) = 1; restore(); untell(0) = 1; untell(1) = 1");
        B.refused("Promise 13", "BEYOND.",
            RICH, "untell(-1) = BEYOND", "untell(2) = BEYOND", "untell(MIN) = BEYOND", "untell(MAX) = BEYOND");
    }
}
