/** Each promise of the document: ordinary inputs, the edges that it names, and wrong inputs. */
public final class PromisesTest {
    private static final int BEYOND = -1000000001;
    private static final int NONE = -1000000002;
    private static final int STATE = -1000000003;
    private static final int FULL = -1000000004;
    private static final int KIND = -1000000005;
    private static final int PARTED = -1000000006;
    private static final int MIN = Integer.MIN_VALUE;
    private static final int MAX = Integer.MAX_VALUE;

    private static int wrong = 0;
    private static int promise = 0;

    private static void due(String call, int got, int want) {
        if (got != want) {
            wrong++;
            System.out.println("promise " + promise + ": " + call + " answered " + got + ", due is " + want);
        }
    }

    public static void main(String[] args) {
        newObject();
        wind();
        price();
        boat();
        boatIs();
        as();
        set();
        pay();
        blows();
        gone();
        feed();
        text();
        untell();
        hours();
        loose();
        seed();
        then();
        income();
        dearest();
        lee();
        who();
        voyage();
        voice();
        body();
        sheet();
        put();
        move();
        winds();
        judge();
        image();
        restore();
        tell();
        check();
        count();
        told();
        System.out.println(wrong == 0 ? "promises: all as due" : "promises: " + wrong + " answers are wrong");
        if (wrong != 0) {
            System.exit(1);
        }
    }

    /** All that the face tells of a sea, to see that an ERROR changed nothing of it. */
    private static String look(WindPrice s) {
        StringBuilder all = new StringBuilder();
        for (int i = 0; i <= 13; i++) {
            all.append(s.count(i)).append(' ');
        }
        for (int i = 0; i < s.count(0); i++) {
            for (int what = 0; what <= 9; what++) {
                all.append(s.boatIs(i, what)).append(' ');
            }
        }
        for (int h = 0; h < 24; h++) {
            int was = s.wind(h, 0);
            s.wind(h, was);
            all.append(was).append(' ');
        }
        for (int i = 0; i < s.count(8); i++) {
            all.append(s.body(i)).append(' ');
        }
        return all.toString();
    }

    private static void same(String call, String was, WindPrice s) {
        String is = look(s);
        if (!was.equals(is)) {
            wrong++;
            System.out.println("promise " + promise + ": " + call + " changed what was " + was + " to " + is);
        }
    }

    private static void feed(WindPrice s, String text) {
        for (int i = 0; i < text.length(); i += 8) {
            int n = Math.min(8, text.length() - i);
            long word = 0;
            for (int j = n - 1; j >= 0; j--) {
                word = word << 8 | text.charAt(i + j);
            }
            s.feed(word, n);
        }
    }

    private static int text(WindPrice s, int use, String text) {
        feed(s, text);
        return s.text(use);
    }

    // Promise 1
    private static void newObject() {
        promise = 1;
        WindPrice s = new WindPrice();
        int[] counts = {0, 0, 10, 3, 0, 0, 0, 0, 0, 1, 3, 3, 3, 3};
        for (int i = 0; i < counts.length; i++) {
            due("count(" + i + ")", s.count(i), counts[i]);
        }
        for (int k = 1; k <= 6; k++) {
            due("told(" + k + ")", s.told(k), 0);
        }
        for (int h = 0; h < 24; h++) {
            due("wind(" + h + ", 0)", s.wind(h, 0), 103);
        }
        due("boatIs(0, 0)", s.boatIs(0, 0), BEYOND);
        due("body(0)", s.body(0), NONE);
        due("restore()", s.restore(), NONE);
        for (int i = 0; i < 4; i++) {
            due("put(" + i + ", 0, 0)", s.put(i, 0, 0), NONE);
        }
        due("untell(0)", s.untell(0), 0);
        due("untell(1)", s.untell(1), 0);
    }

    private static void wind() {
        promise = 2;
        WindPrice s = new WindPrice();
        due("wind(0, 403)", s.wind(0, 403), 103);
        due("wind(0, 0)", s.wind(0, 0), 403);
        due("wind(0, 12)", s.wind(0, 12), 0);
        due("wind(23, 400)", s.wind(23, 400), 103);
        String was = look(s);
        int[] refused = {-1, -10, 4, 5, 9, 14, 404, 409, 410, 413, 1000, MIN, MAX};
        for (int kw : refused) {
            due("wind(0, " + kw + ")", s.wind(0, kw), BEYOND);
        }
        int[] hours = {-1, 24, MIN, MAX};
        for (int hour : hours) {
            due("wind(" + hour + ", 103)", s.wind(hour, 103), BEYOND);
        }
        same("wind", was, s);
        due("wind(0, 103)", s.wind(0, 103), 12);
        due("wind(23, 103)", s.wind(23, 103), 400);
        due("told(1)", s.told(1), 17);
    }

    private static void price() {
        promise = 3;
        WindPrice s = new WindPrice();
        for (int q = 0; q < 4; q++) {
            due("price(" + q + ", ..)", s.price(q, 10 * q), 3);
        }
        due("price(3, 99)", s.price(3, 99), 30);
        due("price(3, 0)", s.price(3, 0), 99);
        String was = look(s);
        due("price(-1, 1)", s.price(-1, 1), BEYOND);
        due("price(4, 1)", s.price(4, 1), BEYOND);
        due("price(0, -1)", s.price(0, -1), BEYOND);
        due("price(0, 100)", s.price(0, 100), BEYOND);
        due("price(MIN, MAX)", s.price(MIN, MAX), BEYOND);
        same("price", was, s);
        due("count(10)", s.count(10), 0);
        due("count(11)", s.count(11), 10);
        due("count(12)", s.count(12), 20);
        due("count(13)", s.count(13), 0);
    }

    private static void boat() {
        promise = 4;
        WindPrice s = new WindPrice();
        due("boat(69, 23)", s.boat(69, 23), 0);
        due("boat(0, 0)", s.boat(0, 0), 1);
        due("boatIs(0, 0)", s.boatIs(0, 0), 6);
        due("boatIs(0, 1)", s.boatIs(0, 1), 9);
        due("boatIs(0, 2)", s.boatIs(0, 2), 23);
        due("boat(-1, 0)", s.boat(-1, 0), BEYOND);
        due("boat(70, 0)", s.boat(70, 0), BEYOND);
        due("boat(0, -1)", s.boat(0, -1), BEYOND);
        due("boat(0, 24)", s.boat(0, 24), BEYOND);
        due("count(0)", s.count(0), 2);
        for (int i = 2; i < 8; i++) {
            due("boat(" + i + "5, " + i + ")", s.boat(10 * (i - 2) + 5, i), i);
        }
        String was = look(s);
        due("boat(0, 0), the ninth", s.boat(0, 0), FULL);
        due("boat(70, 0), the ninth", s.boat(70, 0), BEYOND);
        due("boat(0, 24), the ninth", s.boat(0, 24), BEYOND);
        same("boat", was, s);
        s = new WindPrice();
        s.image();
        s.boat(10, 0);
        s.hours(1);
        s.set(0, 7, 1);
        s.set(0, 4, 5);
        s.set(0, 3, 2);
        s.restore();
        s.boat(43, 9);
        int[] fresh = {4, 3, 9, 1, 99, 0, 0, 0, 3, 0};
        for (int what = 0; what <= 9; what++) {
            due("a number that another one had: boatIs(0, " + what + ")", s.boatIs(0, what), fresh[what]);
        }
    }

    private static void boatIs() {
        promise = 5;
        WindPrice s = new WindPrice();
        s.boat(37, 14);
        s.boat(10, 15);
        int[] first = {3, 7, 14, 1, 99, 0, 0, 0, 10, 0};
        int[] second = {1, 0, 15, 1, 99, 0, 0, 0, 0, 0};
        for (int what = 0; what <= 9; what++) {
            due("boatIs(0, " + what + ")", s.boatIs(0, what), first[what]);
            due("boatIs(1, " + what + ")", s.boatIs(1, what), second[what]);
        }
        due("boatIs(2, 0)", s.boatIs(2, 0), BEYOND);
        due("boatIs(-1, 0)", s.boatIs(-1, 0), BEYOND);
        due("boatIs(0, 10)", s.boatIs(0, 10), BEYOND);
        due("boatIs(0, -1)", s.boatIs(0, -1), BEYOND);
        s.set(0, 4, 2);
        due("a PRICE above LIMIT furls", s.boatIs(0, 9), 1);
        due("one furled takes nothing", s.boatIs(0, 8), 0);
        due("the next one takes half of 10", s.boatIs(1, 8), 5);
        s.set(0, 4, 3);
        due("a PRICE that is LIMIT doesn't", s.boatIs(0, 9), 0);
        s.set(0, 4, 2);
        s.set(0, 7, 1);
        due("nor with a GRANT", s.boatIs(0, 9), 0);
        due("with a GRANT it takes", s.boatIs(0, 8), 10);
        wantsOfKinds();
    }

    private static void wantsOfKinds() {
        int[][] due = {
            {0, 9, 40, 0}, {1, 9, 40, 20}, {1, 0, 41 - 2, 19}, {2, 9, 40, 0}, {3, 4, 30, 19}, {3, 9, 5, 5}, {3, 9, 0, 0},
            {4, 4, 40, 4}, {4, 9, 10, 5}, {4, 0, 10, 0}, {5, 9, 40, 10}, {5, 9, 3, 0}, {6, 9, 40, 13}, {6, 0, 2, 0},
        };
        for (int[] d : due) {
            WindPrice s = new WindPrice();
            s.wind(0, 10 * d[2] + 3);
            s.boat(10 * d[0] + d[1], 0);
            due("KIND " + d[0] + ", m " + d[1] + ", " + d[2] + " KNOTS", s.boatIs(0, 8), d[3]);
        }
        WindPrice s = new WindPrice();
        s.wind(0, 401);
        s.boat(10, 9);
        s.boat(10, 9);
        s.boat(10, 10);
        due("one behind the other: the third, windward", s.boatIs(2, 8), 20);
        due("then by numbers", s.boatIs(0, 8), 10);
        due("of what still blows", s.boatIs(1, 8), 5);
    }

    private static void as() {
        promise = 6;
        WindPrice s = new WindPrice();
        s.wind(0, 403);
        for (int kind = 0; kind <= 6; kind++) {
            s.boat(10 * kind + 1, kind == 1 ? 0 : 23 - kind);
        }
        s.hours(1);
        String[] under = {"0", "01", "02", "013", "014", "025", "06"};
        for (int boat = 0; boat <= 6; boat++) {
            for (int kind = 0; kind <= 6; kind++) {
                int want = under[boat].indexOf('0' + kind) < 0 ? KIND : s.boatIs(boat, 6);
                due("as(" + boat + ", " + kind + ")", s.as(boat, kind), want);
            }
        }
        due("as(1, 1)", s.as(1, 1), 20);
        due("as(7, 0)", s.as(7, 0), BEYOND);
        due("as(-1, 0)", s.as(-1, 0), BEYOND);
        due("as(0, 7)", s.as(0, 7), BEYOND);
        due("as(0, -1)", s.as(0, -1), BEYOND);
    }

    private static void set() {
        promise = 7;
        WindPrice s = new WindPrice();
        s.boat(0, 0);
        s.boat(12, 7);
        int[][] parts = {{0, 6, 1}, {1, 9, 2}, {2, 23, 7}, {3, 3, 1}, {4, 99, 99}, {7, 1, 0}};
        for (int[] p : parts) {
            due("set(1, " + p[0] + ", 0)", s.set(1, p[0], 0), p[2]);
            due("set(1, " + p[0] + ", most)", s.set(1, p[0], p[1]), 0);
            String was = look(s);
            due("set(1, " + p[0] + ", above)", s.set(1, p[0], p[1] + 1), BEYOND);
            due("set(1, " + p[0] + ", -1)", s.set(1, p[0], -1), BEYOND);
            due("set(2, " + p[0] + ", 0)", s.set(2, p[0], 0), BEYOND);
            due("set(-1, " + p[0] + ", 0)", s.set(-1, p[0], 0), BEYOND);
            same("set", was, s);
            due("boatIs(1, " + p[0] + ")", s.boatIs(1, p[0]), p[1]);
        }
        int[] fixed = {-1, 5, 6, 8, 9, 10, MIN, MAX};
        for (int what : fixed) {
            due("set(0, " + what + ", 0)", s.set(0, what, 0), BEYOND);
        }
        due("the other one stays", s.boatIs(0, 2), 0);
    }

    private static void pay() {
        promise = 8;
        WindPrice s = new WindPrice();
        s.boat(10, 0);
        s.boat(45, 6);
        due("pay(0, 1), of nothing", s.pay(0, 1), STATE);
        s.hours(1);
        due("boatIs(0, 5)", s.boatIs(0, 5), 15);
        String was = look(s);
        due("pay(0, 0)", s.pay(0, 0), BEYOND);
        due("pay(0, -1)", s.pay(0, -1), BEYOND);
        due("pay(0, 10000)", s.pay(0, 10000), BEYOND);
        due("pay(2, 1)", s.pay(2, 1), BEYOND);
        due("pay(-1, 1)", s.pay(-1, 1), BEYOND);
        same("pay", was, s);
        due("pay(0, 1)", s.pay(0, 1), 1);
        due("pay(0, 13)", s.pay(0, 13), 13);
        due("pay(0, 9999)", s.pay(0, 9999), 1);
        due("pay(0, 1), all paid", s.pay(0, 1), STATE);
        due("pay(0, 0), all paid", s.pay(0, 0), BEYOND);
        s.pay(1, 9999);
        s.wind(1, 0);
        s.hours(1);
        due("it is owed", s.boatIs(1, 5), -5);
        due("pay(1, 1), being owed", s.pay(1, 1), STATE);
        due("it stays owed", s.boatIs(1, 5), -5);
    }

    private static void blows() {
        promise = 9;
        int[][] cells = {{0, 4, 10, 16, 22}, {1, 11, 10, 9, 8}, {2, 22, 16, 10, 4}, {3, 8, 9, 10, 11}};
        int[] want = {32, 32, 16, 8};
        for (int[] c : cells) {
            WindPrice s = new WindPrice();
            s.wind(0, 320 + c[0]);
            s.boat(10, c[2]);
            s.boat(10, c[3]);
            for (int i = 0; i < 4; i++) {
                due("blows(" + c[i + 1] + "), WAY " + c[0], s.blows(c[i + 1]), want[i]);
            }
            due("blows(0), another line", s.blows(0), 32);
        }
        WindPrice s = new WindPrice();
        s.boat(10, 3);
        s.boat(10, 3);
        due("ahead of all its BOATS", s.blows(3), 10);
        due("behind both", s.blows(4), 3);
        due("blows(-1)", s.blows(-1), BEYOND);
        due("blows(24)", s.blows(24), BEYOND);
        due("blows(23)", s.blows(23), 10);
    }

    private static void gone() {
        promise = 10;
        WindPrice s = new WindPrice();
        s.boat(10, 7);
        s.boat(10, 23);
        due("gone(0)", s.gone(0), 10);
        due("gone(1)", s.gone(1), 5);
        due("gone(3)", s.gone(3), 5);
        due("gone(4), rows", s.gone(4), BEYOND);
        due("gone(-1)", s.gone(-1), BEYOND);
        s.wind(0, 202);
        due("gone(1), columns", s.gone(1), 10);
        due("gone(3), columns", s.gone(3), 20);
        due("gone(5), columns", s.gone(5), 10);
        due("gone(6), columns", s.gone(6), BEYOND);
        s.wind(0, 201);
        due("gone(4), out of the east", s.gone(4), BEYOND);
        s.wind(0, 200);
        due("gone(4), out of the north", s.gone(4), 20);
    }

    private static void feed() {
        promise = 11;
        WindPrice s = new WindPrice();
        due("feed(.., 0)", s.feed(1L, 0), BEYOND);
        due("feed(.., 9)", s.feed(1L, 9), BEYOND);
        due("feed(.., -1)", s.feed(1L, -1), BEYOND);
        due("count(6)", s.count(6), 0);
        due("feed(t+p.., 3): the lowest bytes alone", s.feed(0x7878702B74L, 3), 3);
        due("text(1)", s.text(1), 1);
        for (int i = 1; i <= 7; i++) {
            due("feed(.., 8)", s.feed(0x3131313131313131L, 8), 8 * i);
        }
        due("feed(.., 5), of 56", s.feed(0L, 5), FULL);
        due("feed(.., 9), of 56", s.feed(0L, 9), BEYOND);
        due("count(6)", s.count(6), 56);
        due("feed(.., 4), of 56", s.feed(0x2B2B2B2BL, 4), 60);
        due("feed(.., 1), of 60", s.feed(0L, 1), FULL);
        due("text(0)", s.text(0), -14);
        due("count(6)", s.count(6), 0);
        s.feed(-1L, 8);
        due("bytes above 127", s.text(0), -10);
        s.feed(0x3100000000000031L, 8);
        due("bytes of 0", s.text(0), -11);
    }

    /** What a BILL gives, of 10 knots taken, PRICE 3, 20 KNOTS. */
    private static int bill(String text) {
        WindPrice s = new WindPrice();
        s.wind(0, 203);
        s.boat(10, 0);
        due("text(1) of " + text, text(s, 1, text), 1);
        return s.hours(1);
    }

    private static void text() {
        promise = 12;
        Object[][] values = {
            {"t", 10}, {"p", 3}, {"k", 20}, {"t+p*k", 70}, {"t-p-k", -13}, {"2+3*4%5", 4}, {"7/2", 3}, {"(0-7)/2", -3},
            {"(0-7)%3", -1}, {"7%(0-3)", 1}, {"7/0", 0}, {"7%0", 0}, {"100/7/2", 7}, {"5|0", 1}, {"0|0", 0}, {"0|2", 1}, {"5&2", 1},
            {"5&0", 0}, {"0&5", 0}, {"!5", 0}, {"!0", 1}, {"!!5", 1}, {"3<4", 1}, {"4<4", 0}, {"4=4", 1}, {"4=5", 0}, {"5>4", 1},
            {"4>4", 0}, {"1+1=2", 1}, {"2=1+1", 1}, {"2", 2}, {"((2))", 2}, {"1<2&3>2", 1}, {"0&1|1", 1}, {"1|1&0", 1},
            {"!t+1", 1}, {"!(t=10)", 0}, {"(1<2)<3", 1}, {"0000", 0}, {"0012", 12}, {"9999", 9999}, {"9999+1", 9999},
            {"0-9999-1", -9999}, {"9999*9999*9999%9998", 9999 * 9999 * 9999 % 9998}, {"2048*1024*1024/(0-1)", -9999},
            {"2048*1024*1024%(0-1)", 0}, {"!!!!!t", 0}, {"(((((t)))))", 10}, {"!(!(!t))", 0}, {"!!!!!t+!!!!!t+(((((1)))))", 1},
            {"t|p/0", 1}, {"2*(3+4)", 14}, {"2*3+4", 10}, {"1-1=0&2", 1}, {"5-3+1", 3},
        };
        for (Object[] v : values) {
            due("BILL " + v[0], bill((String) v[0]), (Integer) v[1]);
        }
        textFaults();
        textGrinds();
    }

    private static void textFaults() {
        Object[][] faults = {
            {"", 0}, {"x", 0}, {"b", 0}, {"h", 0}, {"m", 0}, {"T", 0}, {"t+", 2}, {"t++t", 2}, {"12345", 4}, {"t<p<k", 3},
            {"t=p>k", 3}, {"t<p&p<k=k", 7}, {"(t", 2}, {"t)", 1}, {"()", 1}, {"!!!!!!t", 5}, {"((((((t", 5}, {"!(!(!(t", 5}, {"!t!t", 2},
            {" t", 0}, {"t t", 1}, {"-1", 0}, {"tp", 1}, {"t1", 1}, {"1t", 1}, {"(1)2", 3}, {"t=<p", 2}, {"t==p", 2}, {"!t<p=1", 4},
            {"((t)", 4}, {"!", 1}, {"t|", 2}, {"t|&p", 2}, {"t%", 2}, {"(t))", 3}, {"(t<p)<k<t", 7}, {"!!!!!(", 5}, {"(((((!", 5},
            {"t*-1", 2}, {"1+23456", 6}, {"(t|p", 4}, {"t,p", 1}, {"+t", 0}, {")", 0},
        };
        for (Object[] f : faults) {
            WindPrice s = new WindPrice();
            due("text(1) of " + f[0], text(s, 1, (String) f[0]), -10 - (Integer) f[1]);
            due("THE TAPE is empty behind a FAULT", s.count(6), 0);
            due("there is no TEXT behind a FAULT", s.untell(1), 0);
            due("a FAULT is no ERROR", s.told(1), 0);
        }
        WindPrice s = new WindPrice();
        String[] names = {"t", "p", "k"};
        for (String name : names) {
            due("text(0) of " + name, text(s, 0, name), -10);
        }
        due("a sign of 233", text(s, 0, "b+" + (char) 233), -12);
        due("59 bytes", text(s, 0, "1+1+1+1+1+1+1+1+1+1+1+1+1+1+1+1+1+1+1+1+1+1+1+1+1+1+1+1+1+b"), 1);
        due("60 bytes", text(s, 0, "1+1+1+1+1+1+1+1+1+1+1+1+1+1+1+1+1+1+1+1+1+1+1+1+1+1+1+1+1+12"), 1);
        due("60 bytes, of which the last wants more", text(s, 0, "1+1+1+1+1+1+1+1+1+1+1+1+1+1+1+1+1+1+1+1+1+1+1+1+1+1+1+1+1+1+"), -70);
        feed(s, "b");
        due("text(2)", s.text(2), BEYOND);
        due("text(-1)", s.text(-1), BEYOND);
        due("THE TAPE stays", s.count(6), 1);
        due("text(0)", s.text(0), 1);
        due("count(6)", s.count(6), 0);
    }

    private static void textGrinds() {
        WindPrice s = new WindPrice();
        s.boat(67, 6);
        s.boat(65, 7);
        due("text(0) of m+h", text(s, 0, "m+h"), 1);
        due("m", s.boatIs(0, 8), 7);
        due("no more than still blows", s.boatIs(1, 8), 3);
        due("h AHEAD", s.then(2, 0, 8), 9);
        due("h a day AHEAD", s.then(24, 0, 8), 7);
        due("text(0) of a FAULT", text(s, 0, "b+"), -12);
        due("the one ahead stays", s.boatIs(0, 8), 7);
        due("text(0) of b%4", text(s, 0, "b%4"), 1);
        due("in place of one ahead", s.boatIs(0, 8), 2);
        due("b is what still blows", s.boatIs(1, 8), 0);
        due("text(0) of 0-b", text(s, 0, "0-b"), 1);
        due("not below 0", s.boatIs(0, 8), 0);
        due("the other USE has none", s.untell(1), 0);
    }

    private static void untell() {
        promise = 13;
        WindPrice s = new WindPrice();
        s.boat(61, 0);
        text(s, 0, "b");
        text(s, 1, "99");
        due("boatIs(0, 8)", s.boatIs(0, 8), 10);
        due("untell(-1)", s.untell(-1), BEYOND);
        due("untell(2)", s.untell(2), BEYOND);
        due("untell(0)", s.untell(0), 1);
        due("a third of 10", s.boatIs(0, 8), 3);
        due("untell(0)", s.untell(0), 0);
        due("the other TEXT stays", s.hours(1), 99);
        due("untell(1)", s.untell(1), 1);
        due("a BILL without a TEXT", s.hours(1), 108);
        due("untell(1)", s.untell(1), 0);
    }

    private static void hours() {
        promise = 14;
        WindPrice s = new WindPrice();
        due("hours(0)", s.hours(0), BEYOND);
        due("hours(241)", s.hours(241), BEYOND);
        due("hours(-1)", s.hours(-1), BEYOND);
        due("hours(240), no BOATS", s.hours(240), 0);
        due("count(1)", s.count(1), 240);
        hoursBills();
        hoursOfEight();
        hoursMoves();
        hoursLimits();
    }

    private static void hoursBills() {
        WindPrice s = new WindPrice();
        s.wind(0, 303);
        s.wind(1, 313);
        s.price(1, 5);
        s.boat(10, 0);
        s.boat(44, 6);
        s.boat(50, 12);
        s.boat(60, 18);
        s.set(3, 7, 1);
        due("15*3, 4*5, 7*3 and bread, a GRANT", s.hours(1), 45 + 20 + 21 + 1);
        due("USED", s.boatIs(0, 6), 15);
        due("USED with a GRANT", s.boatIs(3, 6), 10);
        due("OWES with a GRANT", s.boatIs(3, 5), 0);
        due("storms are owed back above 30", s.hours(1), 87 + 15 * 1 + 4 * 3 + 7 * 1 + 1);
        s.wind(2, 1);
        s.set(1, 4, 0);
        due("calms are damages, FURLED, too", s.hours(1), 122 - 4 + 1);
        s.set(1, 7, 1);
        s.wind(3, 0);
        due("with a GRANT, too", s.hours(1), 119 - 4 + 1);
        due("of the LICENSED one", s.boatIs(1, 5), 20 + 12 - 8);
        s.set(2, 7, 1);
        s.wind(4, 3);
        s.set(1, 1, 0);
        due("bread with a GRANT, too", s.hours(1), 117);
        s = new WindPrice();
        s.boat(10, 0);
        s.boat(10, 1);
        s.price(0, 9);
        s.set(0, 4, 8);
        due("a FURLED one takes nothing", s.hours(1), 45);
        due("and stays", s.boatIs(0, 2), 0);
        due("while the other one goes", s.boatIs(1, 2), 2);
    }

    private static void hoursOfEight() {
        WindPrice s = new WindPrice();
        for (int h = 0; h < 24; h++) {
            s.wind(h, 403);
        }
        for (int i = 0; i < 8; i++) {
            s.boat(41, 0);
        }
        due("1*3 - 2 of each", s.hours(1), 8 * 1);
        due("none sails on less than 3 knots", s.boatIs(7, 2), 0);
        due("USED of all", s.count(5), 8);
        due("8 knots taken", s.gone(0), 32);
        due("8 knots taken to windward", s.blows(1), 32);
        due("all of the line", s.who(0, 32, 1), 255);
        due("the same, AHEAD", s.then(10, 7, 5), 11);
        s.image();
        s.hours(5);
        s.restore();
        due("the last one, restored", s.boatIs(7, 5), 1);
    }

    private static void hoursMoves() {
        int[][] moves = {
            // kw, KIND and m, CELL, HEAD: CELL and HEAD an HOUR later
            {103, 10, 7, 1, 8, 1}, {103, 10, 7, 0, 1, 0}, {103, 10, 7, 2, 13, 2}, {103, 10, 7, 3, 7, 3}, {101, 10, 7, 3, 6, 3},
            {101, 10, 7, 1, 7, 1}, {100, 10, 7, 0, 7, 0}, {102, 10, 7, 2, 7, 2}, {102, 10, 7, 0, 1, 0}, {100, 10, 7, 2, 13, 2},
            {63, 10, 7, 1, 8, 1}, {53, 10, 7, 1, 7, 1}, {103, 10, 11, 1, 11, 3}, {103, 10, 0, 0, 0, 2}, {103, 10, 18, 2, 18, 0},
            {101, 10, 6, 3, 6, 1}, {103, 10, 6, 3, 6, 3}, {3, 20, 7, 3, 6, 3}, {103, 20, 7, 3, 6, 3}, {103, 20, 6, 3, 6, 1},
            {103, 20, 23, 1, 23, 3}, {103, 20, 0, 0, 0, 2}, {103, 20, 21, 2, 21, 0}, {103, 50, 5, 1, 5, 3}, {103, 50, 4, 1, 5, 1},
            {103, 0, 7, 1, 7, 1}, {103, 69, 7, 1, 7, 1}, {33, 32, 7, 1, 8, 1}, {103, 42, 7, 1, 7, 1}, {103, 43, 7, 1, 8, 1},
            {53, 31, 7, 1, 8, 1}, {43, 30, 7, 1, 7, 1},
        };
        for (int[] m : moves) {
            WindPrice s = new WindPrice();
            s.wind(0, m[0]);
            s.boat(m[1], m[2]);
            s.set(0, 3, m[3]);
            s.hours(1);
            String call = "kw " + m[0] + ", KIND and m " + m[1] + ", CELL " + m[2] + ", HEAD " + m[3];
            due(call + ": CELL", s.boatIs(0, 2), m[4]);
            due(call + ": HEAD", s.boatIs(0, 3), m[5]);
            boolean rows = m[1] / 10 == 2;
            due(call + ": bread, if it turns, too", rows ? s.boatIs(0, 5) : 1, 1);
        }
        WindPrice s = new WindPrice();
        s.wind(0, 203);
        s.boat(10, 0);
        s.boat(10, 1);
        s.hours(1);
        s.price(0, 4);
        due("the PRICE where it took", s.count(4), 45);
        s = new WindPrice();
        s.price(1, 50);
        s.boat(10, 5);
        s.set(0, 3, 2);
        due("not the PRICE where it goes", s.hours(1), 15);
        due("in the next QUARTER", s.boatIs(0, 2), 11);
    }

    private static void hoursLimits() {
        WindPrice s = new WindPrice();
        s.wind(0, 403);
        s.boat(65, 0);
        s.boat(20, 12);
        text(s, 0, "b");
        text(s, 1, "9999*9999");
        for (int h = 0; h < 24; h++) {
            s.wind(h, 403);
        }
        s.hours(100);
        due("a BILL is 9999 at most", s.boatIs(0, 5), 999900);
        s.hours(1);
        due("OWES is 999999 at most", s.boatIs(0, 5), 999999);
        text(s, 1, "0-9999*9999");
        s.hours(1);
        due("a BILL is -9999 at least", s.boatIs(0, 5), 990000);
        s.hours(200);
        due("OWES is -999999 at least", s.boatIs(0, 5), -999999);
        due("count(4)", s.count(4), -999999 + 302);
        s = new WindPrice();
        s.boat(20, 0);
        for (int i = 0; i < 41; i++) {
            s.hours(240);
        }
        due("hours(158)", s.hours(158), 9998);
        String was = look(s);
        due("hours(2) at 9998", s.hours(2), STATE);
        due("hours(240) at 9998", s.hours(240), STATE);
        due("hours(241) at 9998", s.hours(241), BEYOND);
        same("hours", was, s);
        due("hours(1) at 9998", s.hours(1), 9999);
        due("hours(1) at 9999", s.hours(1), STATE);
        due("AHEAD goes beyond", s.then(240, 0, 5), 9999 + 240);
        s.wind(15, 42);
        due("HOUR 9999 is HOUR 15 of the day", s.count(2), 4);
    }

    private static void loose() {
        promise = 15;
        WindPrice s = new WindPrice();
        s.boat(10, 0);
        s.set(0, 3, 3);
        due("loose(0)", s.loose(0), BEYOND);
        due("loose(241)", s.loose(241), BEYOND);
        due("count(9)", s.count(9), 1);
        int z = 1;
        int owes = 0;
        int[] knots = new int[24];
        java.util.Arrays.fill(knots, 10);
        for (int h = 0; h < 96; h++) {
            z = z * 1103515245 + 12345;
            int k = Math.max(0, Math.min(40, knots[h % 24] + (z >>> 8) % 7 - 3));
            knots[h % 24] = k;
            owes += k / 2 * 3 - (k > 30 ? k / 2 * 2 : 0);
            due("loose(1), the " + h + "th", s.loose(1), owes);
            due("count(9)", s.count(9), z);
        }
        for (int h = 0; h < 24; h++) {
            due("it stays so: wind(" + h + ", 3)", s.wind(h, 3), 10 * knots[h] + 3);
        }
        s = new WindPrice();
        s.boat(20, 0);
        due("bread", s.loose(7), 7);
        looseEdges();
    }

    private static void looseEdges() {
        WindPrice s = new WindPrice();
        for (int h = 0; h < 24; h++) {
            s.wind(h, h % 2 == 0 ? h % 4 : 400 + h % 4);
        }
        s.loose(24);
        int z = 1;
        int low = 0;
        int high = 0;
        for (int h = 0; h < 24; h++) {
            z = z * 1103515245 + 12345;
            int more = (z >>> 8) % 7 - 3;
            low += h % 2 == 0 && more < 0 ? 1 : 0;
            high += h % 2 == 1 && more > 0 ? 1 : 0;
            int knots = h % 2 == 0 ? Math.max(0, more) : Math.min(40, 40 + more);
            due("KNOTS are held, the WAY stays: wind(" + h + ", 0)", s.wind(h, 0), 10 * knots + h % 4);
        }
        due("both edges were met", low > 0 && high > 0 ? 1 : 0, 1);
        s = new WindPrice();
        for (int i = 0; i < 41; i++) {
            s.hours(240);
        }
        s.hours(158);
        String was = look(s);
        due("loose(2) at 9998", s.loose(2), STATE);
        due("loose(0) at 9998", s.loose(0), BEYOND);
        same("loose", was, s);
        due("loose(1) at 9998", s.loose(1), 0);
        due("count(1)", s.count(1), 9999);
    }

    private static void seed() {
        promise = 16;
        WindPrice s = new WindPrice();
        due("seed(MIN)", s.seed(MIN), 1);
        due("seed(BEYOND)", s.seed(BEYOND), MIN);
        due("seed(7)", s.seed(7), BEYOND);
        due("count(9)", s.count(9), 7);
        due("it is no ERROR", s.told(1), 0);
        s.wind(0, 203);
        s.loose(1);
        int z = 7 * 1103515245 + 12345;
        due("count(9)", s.count(9), z);
        due("the draw", s.wind(0, 0), 10 * (20 + (z >>> 8) % 7 - 3) + 3);
    }

    private static void then() {
        promise = 17;
        WindPrice s = new WindPrice();
        s.boat(20, 0);
        s.boat(10, 6);
        s.wind(5, 11);
        String was = look(s);
        due("then(0, 0, 2)", s.then(0, 0, 2), 0);
        due("then(5, 0, 2)", s.then(5, 0, 2), 5);
        due("then(6, 0, 3)", s.then(6, 0, 3), 3);
        due("then(6, 0, 2)", s.then(6, 0, 2), 5);
        due("then(7, 0, 2)", s.then(7, 0, 2), 4);
        due("then(240, 0, 5)", s.then(240, 0, 5), 240);
        due("then(2, 1, 6)", s.then(2, 1, 6), 10);
        due("then(2, 1, 8)", s.then(2, 1, 8), 5);
        due("then(5, 1, 8)", s.then(5, 1, 8), 0);
        due("then(2, 1, 9)", s.then(2, 1, 9), 0);
        due("then(-1, 0, 0)", s.then(-1, 0, 0), BEYOND);
        due("then(241, 0, 0)", s.then(241, 0, 0), BEYOND);
        due("then(0, 2, 0)", s.then(0, 2, 0), BEYOND);
        due("then(0, -1, 0)", s.then(0, -1, 0), BEYOND);
        due("then(0, 0, 10)", s.then(0, 0, 10), BEYOND);
        due("then(0, 0, -1)", s.then(0, 0, -1), BEYOND);
        same("then", was, s);
        for (int n = 1; n <= 30; n++) {
            int[] want = new int[10];
            for (int what = 0; what <= 9; what++) {
                want[what] = s.then(1, 1, what);
            }
            s.hours(1);
            for (int what = 0; what <= 9; what++) {
                due("boatIs(1, " + what + ") as it was AHEAD", s.boatIs(1, what), want[what]);
            }
        }
        s.price(0, 5);
        s.boat(10, 7);
        s.set(2, 4, 4);
        s.set(2, 3, 0);
        s.wind(s.count(1) % 24, 103);
        due("furled behind an HOUR", s.then(1, 2, 9), 1);
    }

    private static void income() {
        promise = 18;
        WindPrice s = new WindPrice();
        s.boat(20, 0);
        s.boat(50, 6);
        s.boat(45, 12);
        s.wind(2, 3);
        String was = look(s);
        due("income(0)", s.income(0), 0);
        due("income(1)", s.income(1), 2 * 3 + 5 * 3);
        due("income(2)", s.income(2), 42);
        due("income(3), a calm", s.income(3), 42 - 5);
        due("income(-1)", s.income(-1), BEYOND);
        due("income(241)", s.income(241), BEYOND);
        same("income", was, s);
        s.hours(2);
        due("income(1), less what they OWE now", s.income(1), -5);
        due("count(4), with bread", s.count(4), 46);
        int sum = s.count(4);
        s.set(0, 0, 0);
        s.set(1, 0, 0);
        due("income(240) without rowers", s.income(240) + sum, s.hours(240));
    }

    private static void dearest() {
        promise = 19;
        WindPrice s = new WindPrice();
        due("of several the least: no BOATS", s.dearest(0, 1), 0);
        s.boat(10, 0);
        s.set(0, 3, 3);
        s.set(0, 4, 40);
        due("up to LIMIT", s.dearest(0, 48), 40);
        due("another QUARTER", s.dearest(1, 48), 0);
        s.boat(10, 1);
        s.set(1, 3, 3);
        s.set(1, 4, 90);
        due("5*90 of the second, above 5*40 and 2*40", s.dearest(0, 1), 90);
        s.set(1, 4, 50);
        String was = look(s);
        due("7*40 of both, above 5*50", s.dearest(0, 1), 40);
        due("dearest(0, 0)", s.dearest(0, 0), BEYOND);
        due("dearest(0, 49)", s.dearest(0, 49), BEYOND);
        due("dearest(-1, 1)", s.dearest(-1, 1), BEYOND);
        due("dearest(4, 1)", s.dearest(4, 1), BEYOND);
        same("dearest", was, s);
        text(s, 1, "0-p");
        due("the least price", s.dearest(0, 1), 0);
        text(s, 1, "p/20");
        s.set(0, 4, 99);
        s.set(1, 4, 99);
        due("of several the least", s.dearest(0, 3), 80);
        text(s, 1, "0-9");
        due("dearer than all LIMITS, if it pays to take nothing", s.dearest(0, 1), 0);
        s.set(0, 4, 30);
        s.set(1, 4, 30);
        due("so that none takes", s.dearest(0, 1), 31);
        s = new WindPrice();
        s.boat(10, 18);
        due("the last QUARTER, the greatest PRICE", s.dearest(3, 1), 99);
        s.set(0, 7, 1);
        due("a GRANT AHEAD, too: no bills", s.dearest(3, 2), 0);
    }

    private static void lee() {
        promise = 20;
        WindPrice s = new WindPrice();
        s.wind(0, 403);
        s.boat(10, 1);
        s.boat(10, 0);
        s.boat(10, 7);
        String was = look(s);
        due("lee(0, 1): 20, not 10", s.lee(0, 1), 10);
        due("lee(1, 0): to windward", s.lee(1, 0), 0);
        due("lee(2, 0): another line", s.lee(2, 0), 0);
        due("lee(0, 0)", s.lee(0, 0), BEYOND);
        due("lee(0, 3)", s.lee(0, 3), BEYOND);
        due("lee(3, 0)", s.lee(3, 0), BEYOND);
        due("lee(-1, 0)", s.lee(-1, 0), BEYOND);
        due("lee(0, -1)", s.lee(0, -1), BEYOND);
        due("lee(9, 9)", s.lee(9, 9), BEYOND);
        same("lee", was, s);
        s.set(1, 4, 2);
        due("a FURLED one costs nothing", s.lee(0, 1), 0);
        s.set(1, 4, 99);
        s.set(0, 0, 6);
        text(s, 0, "30-b");
        due("it may be less: 0 of 40, 10 of 20", s.lee(0, 1), -10);
        s.set(1, 2, 1);
        due("in one CELL by numbers", s.lee(1, 0), 0);
        s.untell(0);
        due("13 of 40 gone: 13 of 27, not 20", s.lee(1, 0), 7);
    }

    private static void who() {
        promise = 21;
        WindPrice s = new WindPrice();
        s.wind(0, 163);
        s.boat(0, 3);
        s.boat(10, 1);
        s.boat(10, 6);
        s.boat(10, 2);
        String was = look(s);
        due("16: no one, or the BOAT", s.who(0, 16, 0), 2);
        due("16: none", s.who(0, 16, 1), 0);
        due("16: surely none", s.who(0, 16, 2), 0);
        due("16: maybe the BOAT", s.who(0, 16, 3), 1);
        due("8: one of two, with the BOAT or not", s.who(0, 8, 0), 4);
        due("8: the least", s.who(0, 8, 1), 2);
        due("8: surely", s.who(0, 8, 2), 0);
        due("8: maybe", s.who(0, 8, 3), 11);
        due("4: both", s.who(0, 4, 0), 2);
        due("4: the least", s.who(0, 4, 1), 10);
        due("4: surely", s.who(0, 4, 2), 10);
        due("4: maybe", s.who(0, 4, 3), 11);
        due("row 1: 8", s.who(1, 8, 2), 4);
        due("row 2: 16", s.who(2, 16, 0), 1);
        due("5: how many", s.who(0, 5, 0), 0);
        due("5: maybe", s.who(0, 5, 3), 0);
        due("told(2)", s.told(2), 0);
        due("5: the least", s.who(0, 5, 1), NONE);
        due("5: surely", s.who(0, 5, 2), NONE);
        due("who(4, 0, 0)", s.who(4, 0, 0), BEYOND);
        due("who(-1, 0, 0)", s.who(-1, 0, 0), BEYOND);
        due("who(0, 41, 0)", s.who(0, 41, 0), BEYOND);
        due("who(0, -1, 0)", s.who(0, -1, 0), BEYOND);
        due("who(0, 40, 0)", s.who(0, 40, 0), 0);
        due("who(0, 0, 4)", s.who(0, 0, 4), BEYOND);
        due("who(0, 0, -1)", s.who(0, 0, -1), BEYOND);
        same("who", was, s);
        s.set(1, 4, 0);
        due("a FURLED one takes 0, but is in sets", s.who(0, 16, 3), 3);
        due("8: the other one surely", s.who(0, 8, 2), 8);
        s.wind(0, 160);
        due("columns: 8 behind column 0", s.who(0, 8, 1), 4);
        due("columns: 5", s.who(5, 16, 0), 1);
        due("columns: 6", s.who(6, 16, 0), BEYOND);
        s = new WindPrice();
        for (int i = 0; i < 8; i++) {
            s.boat(31, 12 + i % 6);
        }
        due("10 goes down to 4, 1, 0: sets of three or more", s.who(2, 0, 0), 256 - 1 - 8 - 28);
        due("the least of them", s.who(2, 0, 1), 7);
        due("maybe all", s.who(2, 0, 3), 255);
        due("surely none", s.who(2, 0, 2), 0);
    }

    private static void voyage() {
        promise = 22;
        WindPrice s = new WindPrice();
        due("voyage(9, 9, 0)", s.voyage(9, 9, 0), 0);
        due("voyage(9, 10, 0)", s.voyage(9, 10, 0), NONE);
        due("by OAR", s.voyage(9, 10, 1), 2);
        due("voyage(0, 23, 8)", s.voyage(0, 23, 8), 16);
        due("voyage(0, 23, 7)", s.voyage(0, 23, 7), NONE);
        due("voyage(23, 0, 8)", s.voyage(23, 0, 8), 16);
        due("no way round from row to row", s.voyage(5, 6, 1), NONE);
        due("voyage(-1, 0, 1)", s.voyage(-1, 0, 1), BEYOND);
        due("voyage(24, 0, 1)", s.voyage(24, 0, 1), BEYOND);
        due("voyage(0, -1, 1)", s.voyage(0, -1, 1), BEYOND);
        due("voyage(0, 24, 1)", s.voyage(0, 24, 1), BEYOND);
        due("voyage(0, 1, -1)", s.voyage(0, 1, -1), BEYOND);
        due("voyage(0, 1, 25)", s.voyage(0, 1, 25), BEYOND);
        s.price(1, 0);
        due("by SAIL out of QUARTER 1", s.voyage(6, 11, 5), 0);
        due("not to windward", s.voyage(11, 6, 24), 10);
        due("to QUARTER 2 by SAIL, on by OAR", s.voyage(6, 18, 2), 2);
        due("into QUARTER 1 by OAR", s.voyage(0, 6, 1), 2);
        due("through QUARTER 1", s.voyage(0, 5, 24), 2);
        due("straight", s.voyage(0, 5, 6), 10);
        s.wind(0, 53);
        due("5 KNOTS: by OAR", s.voyage(6, 7, 1), 2);
        due("it waits", s.voyage(6, 7, 2), 0);
        s.wind(0, 63);
        due("6 KNOTS: by SAIL", s.voyage(6, 7, 1), 0);
        s.wind(0, 61);
        due("out of the east", s.voyage(6, 7, 1), 2);
        due("to the west", s.voyage(7, 6, 1), 0);
        s.hours(23);
        due("HOURS go on by 24", s.voyage(7, 6, 1), 2);
        due("the next HOUR's WIND", s.voyage(7, 6, 2), 0);
        s.price(3, 1);
        s.boat(10, 18);
        due("OAR for 2, not SAIL for 3", s.voyage(18, 19, 1), 2);
    }

    private static void voice() {
        promise = 23;
        int[][] due = {
            // KIND; what sails, takes, owes answer with m 9, k 2, x 100; a SAILER takes(1) nothing as its third
            {0, 102, 204, 195}, {1, 99, 198, 189}, {2, 102, -204, -213}, {3, 297, 594, 587},
            {4, 99, 198, 89}, {5, 102, -206, -215}, {6, 5, 19, 10},
        };
        for (int[] d : due) {
            WindPrice s = new WindPrice();
            s.boat(0, 0);
            s.boat(0, 0);
            s.boat(10 * d[0] + 9, 0);
            for (int v = 0; v < 3; v++) {
                due("KIND " + d[0] + ": voice(2, " + v + ", 100)", s.voice(2, v, 100), d[v + 1]);
            }
            due("KIND " + d[0] + ": voice(2, 3, 100)", s.voice(2, 3, 100), 14);
            due("KIND " + d[0] + ": voice(2, 3, -100)", s.voice(2, 3, -100), -14);
            s.set(2, 1, 2);
            due("KIND " + d[0] + ": PARTED", s.voice(2, 3, 100), PARTED);
            due("told(6)", s.told(6), 1);
            due("KIND " + d[0] + ": behind PARTED", s.voice(2, 0, 100), d[1]);
        }
        WindPrice s = new WindPrice();
        s.boat(15, 0);
        due("parts and takes(1)", s.voice(0, 3, 100), 20 + (1 - 3) * 2);
        s.boat(0, 0);
        due("MIN by -1 wraps", s.voice(1, 3, MIN), MIN);
        due("it wraps", s.voice(1, 0, MAX), MIN);
        due("voice(2, 0, 0)", s.voice(2, 0, 0), BEYOND);
        due("voice(-1, 0, 0)", s.voice(-1, 0, 0), BEYOND);
        due("voice(0, 4, 0)", s.voice(0, 4, 0), BEYOND);
        due("voice(0, -1, 0)", s.voice(0, -1, 0), BEYOND);
        int told = s.told(6);
        due("an answer like an ERROR", s.voice(1, 0, PARTED - 1), PARTED);
        due("is none", s.told(6), told);
        s.boat(36, 0);
        s.boat(37, 0);
        due("^ of like bits: 3 of (1 + 3 - 3) * 3 * 2 - 7", s.voice(3, 2, 1), -1 ^ 3);
        s.set(0, 0, 4);
        due("x / 2 is cut toward 0", s.voice(0, 2, -3), (-1 - 3) * 2 - 5);
    }

    private static void body() {
        promise = 24;
        int[][][] traces = {
            {{10}, {11, 10}, {12, 11, 10}, {13}},
            {{20, 10}, {11, 20, 10}, {12, 11, 20, 10}, {21, 13, 11, 20, 10}},
            {{10}, {30, 11, 10}, {12, 30, 11, 10}, {13}},
            {{40, 20, 10}, {11, 40, 20, 10}, {41, 12, 11, 40, 20, 10}, {21, 13, 11, 40, 20, 10}},
            {{20, 10}, {11, 20, 10}, {50, 12, 11, 20, 10}, {21, 13, 11, 20, 10}},
            {{10}, {60, 30, 11, 10}, {12, 60, 30, 11, 10}, {13}},
            {{70}, {71, 11, 70}, {12, 71, 11, 70}, {13}},
        };
        WindPrice s = new WindPrice();
        s.boat(1, 0);
        for (int kind = 0; kind <= 6; kind++) {
            s.set(0, 0, kind);
            for (int v = 0; v < 4; v++) {
                s.voice(0, v, 7);
                trace(s, "KIND " + kind + ", voice " + v, traces[kind][v]);
            }
        }
        s.set(0, 0, 1);
        s.set(0, 1, 0);
        due("voice(0, 3, 7)", s.voice(0, 3, 7), PARTED);
        trace(s, "PARTED, too", new int[] {21, 13});
        s.voice(0, 4, 7);
        trace(s, "BEYOND leaves it", new int[] {21, 13});
        due("body(-1)", s.body(-1), NONE);
        due("body(MIN)", s.body(MIN), NONE);
        due("body(MAX)", s.body(MAX), NONE);
    }

    private static void trace(WindPrice s, String call, int[] want) {
        due(call + ": count(8)", s.count(8), want.length);
        for (int i = 0; i < want.length; i++) {
            due(call + ": body(" + i + ")", s.body(i), want[i]);
        }
        due(call + ": body(" + want.length + ")", s.body(want.length), NONE);
    }

    private static void sheet() {
        promise = 25;
        WindPrice s = new WindPrice();
        due("sheet(-1, 8, 1)", s.sheet(-1, 8, 1), BEYOND);
        due("sheet(4, 8, 1)", s.sheet(4, 8, 1), BEYOND);
        due("sheet(0, 7, 1)", s.sheet(0, 7, 1), BEYOND);
        due("sheet(0, 64, 1)", s.sheet(0, 64, 1), BEYOND);
        due("sheet(0, -8, 1)", s.sheet(0, -8, 1), BEYOND);
        due("sheet(0, 8, -1)", s.sheet(0, 8, -1), STATE);
        due("sheet(0, 8, MIN)", s.sheet(0, 8, MIN), STATE);
        due("sheet(4, 8, -1)", s.sheet(4, 8, -1), BEYOND);
        due("sheet(0, 9, -1)", s.sheet(0, 9, -1), BEYOND);
        due("sheet(0, 8, 25)", s.sheet(0, 8, 25), BEYOND);
        due("it is still missing", s.put(0, 0, 1), NONE);
        due("sheet(0, 8, 24)", s.sheet(0, 8, 24), 1);
        due("put(0, 23, 1)", s.put(0, 23, 1), 1);
        due("sheet(3, 32, 0)", s.sheet(3, 32, 0), 1);
        due("no numbers, but not missing", s.winds(3), 0);
        due("put(3, 0, 1)", s.put(3, 0, 1), BEYOND);
        due("sheet(0, 0, -5)", s.sheet(0, 0, -5), 1);
        due("it is missing", s.winds(0), NONE);
        due("sheet(0, 0, 99)", s.sheet(0, 0, 99), 1);
        s.boat(10, 0);
        s.sheet(1, 16, 1);
        s.put(1, 0, 5);
        due("judge(1)", s.judge(1), 1);
        due("sheet(1, 16, 25)", s.sheet(1, 16, 25), BEYOND);
        due("sheet(1, 16, -1)", s.sheet(1, 16, -1), STATE);
        due("an ERROR leaves it", s.judge(1), 1);
        due("sheet(1, 16, 1)", s.sheet(1, 16, 1), 1);
        due("all 0 again", s.judge(1), 0);
    }

    /** Number i of a SHEET, told by the WIND that it gives; -1 if it gives none. */
    private static int windOf(WindPrice s, int sheet, int i) {
        int came = s.winds(sheet);
        return came > i ? s.wind(i, 103) : -1;
    }

    private static void put() {
        promise = 26;
        WindPrice s = new WindPrice();
        due("put(4, 0, 0)", s.put(4, 0, 0), BEYOND);
        due("put(-1, 0, 0)", s.put(-1, 0, 0), BEYOND);
        due("put(0, -1, 0), missing", s.put(0, -1, 0), NONE);
        s.sheet(0, 8, 2);
        s.sheet(1, 16, 2);
        s.sheet(2, 32, 2);
        due("put(0, 2, 0)", s.put(0, 2, 0), BEYOND);
        due("put(0, -1, 0)", s.put(0, -1, 0), BEYOND);
        due("put(0, MAX, 0)", s.put(0, MAX, 0), BEYOND);
        due("put(0, 1, 256 + 103)", s.put(0, 1, 256 + 103), 1);
        due("8 bits", windOf(s, 0, 1), 103);
        due("put(0, 1, 123)", s.put(0, 1, 123), 1);
        due("8 bits", windOf(s, 0, 1), 123);
        due("put(0, 1, 201)", s.put(0, 1, 201), 1);
        due("8 bits, with their sign", s.winds(0), 1);
        due("put(1, 1, 201)", s.put(1, 1, 201), 1);
        due("16 bits", windOf(s, 1, 1), 201);
        due("put(1, 1, 65536 * 3 + 403)", s.put(1, 1, 65536 * 3 + 403), 1);
        due("16 bits, the lowest", windOf(s, 1, 1), 403);
        due("put(1, 1, 32768 + 103)", s.put(1, 1, 32768 + 103), 1);
        due("16 bits, with their sign", s.winds(1), 1);
        due("put(2, 1, 65536 + 103)", s.put(2, 1, 65536 + 103), 1);
        due("32 bits", s.winds(2), 1);
        due("put(2, 1, 103)", s.put(2, 1, 103), 1);
        due("32 bits", s.winds(2), 2);
    }

    private static void move() {
        promise = 27;
        WindPrice s = new WindPrice();
        s.sheet(0, 16, 5);
        s.sheet(1, 16, 3);
        s.sheet(2, 8, 3);
        for (int i = 0; i < 5; i++) {
            s.put(0, i, 10 * (i + 1));
        }
        due("move(-1, 0, 0, 0, 0)", s.move(-1, 0, 0, 0, 0), BEYOND);
        due("move(0, 0, 4, 0, 0)", s.move(0, 0, 4, 0, 0), BEYOND);
        due("move(3, 0, 4, 0, 0)", s.move(3, 0, 4, 0, 0), BEYOND);
        due("move(3, 0, 0, 0, 0)", s.move(3, 0, 0, 0, 0), NONE);
        due("move(0, -1, 3, 0, 0)", s.move(0, -1, 3, 0, 0), NONE);
        due("move(0, -1, 2, 0, 0)", s.move(0, -1, 2, 0, 0), KIND);
        int[][] refused = {
            {-1, 0, 1}, {0, -1, 1}, {0, 0, -1}, {3, 0, 3}, {0, 2, 2}, {6, 0, 0}, {0, 4, 0}, {5, 0, 1}, {0, 3, 1}, {0, 0, 4},
            {MAX, 0, 1}, {1, 1, MAX}, {MAX, MAX, MAX}, {MIN, 0, 0}, {0, 0, MIN}, {-1, 0, 0}, {0, -1, 0}, {MAX, 0, 0},
        };
        for (int[] r : refused) {
            due("move(0, " + r[0] + ", 1, " + r[1] + ", " + r[2] + ")", s.move(0, r[0], 1, r[1], r[2]), BEYOND);
        }
        due("move(0, 5, 1, 3, 0)", s.move(0, 5, 1, 3, 0), 0);
        due("move(0, 3, 1, 1, 2)", s.move(0, 3, 1, 1, 2), 2);
        row(s, 1, 0, 40, 50);
        row(s, 0, 10, 20, 30, 40, 50);
        due("move(0, 0, 0, 1, 4)", s.move(0, 0, 0, 1, 4), 4);
        row(s, 0, 10, 10, 20, 30, 40);
        due("move(0, 1, 0, 0, 4)", s.move(0, 1, 0, 0, 4), 4);
        row(s, 0, 10, 20, 30, 40, 40);
        due("move(1, 0, 0, 2, 3)", s.move(1, 0, 0, 2, 3), 3);
        row(s, 0, 10, 20, 0, 40, 50);
    }

    private static void row(WindPrice s, int sheet, int... want) {
        due("winds(" + sheet + ")", s.winds(sheet), want.length);
        for (int i = 0; i < want.length; i++) {
            due("number " + i + " of " + sheet, s.wind(i, 103), want[i]);
        }
    }

    private static void winds() {
        promise = 28;
        WindPrice s = new WindPrice();
        due("winds(4)", s.winds(4), BEYOND);
        due("winds(-1)", s.winds(-1), BEYOND);
        due("winds(0)", s.winds(0), NONE);
        s.sheet(0, 16, 24);
        due("winds(0), all 0", s.winds(0), 24);
        due("wind(23, 103)", s.wind(23, 103), 0);
        int[] refused = {4, 404, 410, -1, 32767};
        for (int kw : refused) {
            s.put(0, 0, 403);
            s.put(0, 1, 12);
            s.put(0, 2, kw);
            int told = s.told(1);
            due("winds(0), up to " + kw, s.winds(0), 2);
            due("it is no ERROR", s.told(1), told);
            due("wind(0, 11)", s.wind(0, 11), 403);
            due("wind(1, 11)", s.wind(1, 11), 12);
            due("wind(2, 11)", s.wind(2, 11), kw == 4 ? 0 : 11);
        }
    }

    private static void judge() {
        promise = 29;
        WindPrice s = new WindPrice();
        due("judge(4)", s.judge(4), BEYOND);
        due("judge(-1)", s.judge(-1), BEYOND);
        due("judge(0)", s.judge(0), NONE);
        s.sheet(0, 32, 0);
        due("judge(0), no BOATS", s.judge(0), 0);
        s.boat(10, 1);
        s.boat(10, 0);
        s.boat(0, 2);
        due("judge(0), no numbers", s.judge(0), 0);
        s.sheet(0, 32, 2);
        s.put(0, 0, 2);
        due("5 isn't 0", s.judge(0), 1);
        s.put(0, 1, 5);
        due("one without a number, even if it takes 0", s.judge(0), 2);
        s.sheet(1, 32, 24);
        s.move(0, 0, 1, 0, 2);
        due("none", s.judge(1), 3);
        s.put(1, 5, 77);
        due("more numbers than BOATS", s.judge(1), 3);
        s.put(1, 0, 3);
        due("the first", s.judge(1), 0);
        s.put(1, 0, 2);
        s.lee(0, 1);
        s.who(0, 5, 0);
        due("as all take, behind other acts", s.judge(1), 3);
    }

    private static void image() {
        promise = 30;
        WindPrice s = new WindPrice();
        due("image()", s.image(), 1);
        s.boat(10, 0);
        due("image()", s.image(), 2);
        s.restore();
        due("in place of one ahead", s.count(0), 1);
        due("image(), not as it was", s.image(), 3);
        s.hours(3);
        s.restore();
        due("image(), also behind restore()", s.image(), 4);
    }

    private static void restore() {
        promise = 31;
        WindPrice s = new WindPrice();
        due("restore()", s.restore(), NONE);
        s.boat(64, 7);
        s.boat(45, 8);
        s.price(2, 77);
        s.wind(20, 22);
        s.set(1, 4, 50);
        s.set(0, 3, 2);
        text(s, 0, "b-m");
        text(s, 1, "t*7");
        s.seed(99);
        s.hours(5);
        s.tell(7);
        s.tell(7);
        feed(s, "12+");
        s.voice(0, 0, 1);
        String was = look(s);
        int grinds = s.boatIs(0, 8);
        int ahead = s.income(30);
        s.image();
        s.untell(0);
        s.untell(1);
        s.boat(10, 3);
        s.set(0, 0, 1);
        s.price(2, 1);
        s.wind(20, 33);
        s.loose(30);
        s.tell(6);
        s.check(0);
        s.tell(19);
        s.text(1);
        feed(s, ")))))");
        s.sheet(2, 8, 3);
        due("restore()", s.restore(), 5);
        same("restore", was, s);
        due("the TEXT of GRINDS", s.boatIs(0, 8), grinds);
        due("the TEXT of BILL", s.income(30), ahead);
        due("THE TAPE", s.count(6), 3);
        due("feed(3, 1)", s.feed('3', 1), 4);
        due("text(1), 12+3", s.text(1), 1);
        due("numbers that wait", s.check(0), 0);
        due("SHEETS stay", s.put(2, 2, 1), 1);
        s.hours(7);
        due("the IMAGE stays", s.restore(), 5);
        same("restore", was, s);
        s.voice(0, 1, 1);
        int bodies = s.count(8);
        int told = s.told(2);
        s.restore();
        due("THE TRACE stays", s.count(8), bodies);
        due("what told() tells stays", s.told(2), told);
        s.image();
        s.set(0, 1, 9);
        s.price(0, 55);
        s.restore();
        due("nothing is shared with the IMAGE", s.boatIs(0, 1), 4);
        s.set(0, 7, 1);
        s.image();
        s.set(0, 7, 0);
        s.restore();
        due("GRANT, too", s.boatIs(0, 7), 1);
        due("nothing is shared with the IMAGE", s.count(10), 3);
    }

    private static void tell() {
        promise = 32;
        WindPrice s = new WindPrice();
        for (int i = 1; i <= 24; i++) {
            due("tell(" + i + ")", s.tell(i == 7 ? MIN : i), i);
        }
        due("tell(0), the 25th", s.tell(0), FULL);
        due("count(7)", s.count(7), 24);
        due("told(4)", s.told(4), 1);
    }

    private static void check() {
        promise = 33;
        WindPrice s = new WindPrice();
        s.boat(20, 3);
        due("check(0), none", s.check(0), 0);
        int[] cells = {4, 5, 5, 4, 3, 2, 1, 0, 0, 1};
        for (int cell : cells) {
            s.tell(cell);
        }
        String was = look(s).replaceFirst(" 10 0 1 3 3 3 3", " 0 0 1 3 3 3 3");
        due("check(0), all", s.check(0), 0);
        same("check, but for those that wait,", was, s);
        for (int bad = 0; bad < cells.length; bad++) {
            for (int i = 0; i < cells.length; i++) {
                s.tell(i >= bad ? 23 : cells[i]);
            }
            due("check(0), wrong from " + bad, s.check(0), 1 + bad);
            due("none wait then", s.count(7), 0);
        }
        s.tell(4);
        due("check(1)", s.check(1), BEYOND);
        due("none wait then, too", s.count(7), 0);
        s.tell(4);
        due("check(-1)", s.check(-1), BEYOND);
        due("none wait then, too", s.count(7), 0);
        s.tell(5);
        due("check(0)", s.check(0), 1);
    }

    private static void count() {
        promise = 34;
        WindPrice s = new WindPrice();
        s.boat(10, 0);
        s.boat(20, 6);
        s.wind(1, 291);
        s.hours(1);
        s.price(0, 40);
        s.price(1, 41);
        s.price(2, 42);
        s.price(3, 43);
        feed(s, "abcde");
        s.tell(1);
        s.tell(1);
        s.voice(0, 1, 1);
        s.seed(-1000000003);
        int[] want = {2, 1, 29, 1, 16, 5, 5, 2, 3, -1000000003, 40, 41, 42, 43};
        for (int i = 0; i < want.length; i++) {
            due("count(" + i + ")", s.count(i), want[i]);
        }
        due("told(3): z is no ERROR", s.told(3), 0);
        due("count(-1)", s.count(-1), BEYOND);
        due("count(14)", s.count(14), BEYOND);
        due("count(MIN)", s.count(MIN), BEYOND);
    }

    private static void told() {
        promise = 35;
        WindPrice s = new WindPrice();
        due("told(0)", s.told(0), BEYOND);
        due("told(7)", s.told(7), BEYOND);
        due("told(-1)", s.told(-1), BEYOND);
        due("told(MIN)", s.told(MIN), BEYOND);
        due("told(1), those too", s.told(1), 4);
        s.body(0);
        s.restore();
        s.boat(0, 0);
        s.pay(0, 1);
        s.pay(0, 1);
        s.pay(0, 1);
        for (int i = 0; i < 28; i++) {
            s.tell(i);
        }
        for (int i = 0; i < 5; i++) {
            s.as(0, 1);
        }
        for (int i = 0; i < 6; i++) {
            s.voice(0, 3, i);
        }
        int[] want = {0, 4, 2, 3, 4, 5, 6};
        for (int k = 1; k <= 6; k++) {
            due("told(" + k + ")", s.told(k), want[k]);
        }
        s.image();
        s.body(99);
        s.restore();
        due("told(2), not of the IMAGE", s.told(2), 3);
    }
}
