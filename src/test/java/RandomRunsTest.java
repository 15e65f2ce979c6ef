import java.util.ArrayDeque;
import java.util.ArrayList;
import java.util.Arrays;
import java.util.Deque;
import java.util.List;
import java.util.Random;

/** Random runs of calls: WindPrice against PlainModel, a second program of the same document. */
public final class RandomRunsTest {
    private static final int RUNS = 500;
    private static final int CALLS = 400;
    private static final String[] NAMES = {
        "wind", "price", "boat", "boatIs", "as", "set", "pay", "blows", "gone", "feed", "text", "untell",
        "hours", "loose", "seed", "then", "income", "dearest", "lee", "who", "voyage", "voice", "body",
        "sheet", "put", "move", "winds", "judge", "image", "restore", "tell", "check", "count", "told",
    };
    private static final int[] WEIGHTS = {
        9, 5, 9, 12, 3, 12, 4, 5, 5, 14, 6, 1,
        6, 4, 1, 6, 4, 1, 4, 6, 3, 8, 4,
        3, 10, 4, 2, 3, 1, 1, 7, 3, 6, 3,
    };

    private static final int FEED = 9;
    private static final int TEXT = 10;
    private static final int HOURS = 12;
    private static final int TELL = 30;
    private static final int CHECK = 31;

    public static void main(String[] args) {
        int wrong = 0;
        for (int run = 0; run < RUNS && wrong < 5; run++) {
            if (!sameRun(run)) {
                wrong++;
            }
        }
        System.out.println(wrong == 0 ? "random runs: all as due" : "random runs: wrong");
        if (wrong != 0) {
            System.exit(1);
        }
    }

    private static boolean sameRun(int run) {
        Random random = new Random(run * 7919L + 5);
        WindPrice sea = new WindPrice();
        PlainModel model = new PlainModel();
        boolean wild = run % 4 == 0;
        boolean old = run % 5 == 1;
        int use = 1;
        String pending = old ? (run % 2 == 0 ? "999*t" : "0-999*t") : null;
        List<String> story = new ArrayList<>();
        for (int call = 0; call < CALLS; call++) {
            int which = old && random.nextInt(7) == 0 ? HOURS + random.nextInt(2) : pick(random);
            which = old && which == CHECK && random.nextInt(8) != 0 ? TELL : which;
            long word = 0;
            int[] a = new int[5];
            if (pending == null && random.nextInt(old ? 80 : 20) == 0) {
                use = random.nextInt(2);
                pending = sentence(random, use == 0 ? "bhm" : "tpk", 0);
                pending = spoilt(random, pending.length() > 60 ? pending.substring(0, 60) : pending);
            }
            if (pending != null && pending.isEmpty()) {
                which = TEXT;
                a[0] = use;
                pending = null;
            } else if (pending != null) {
                which = FEED;
                a[0] = Math.min(8, pending.length());
                word = wordOf(pending);
                pending = pending.substring(a[0]);
            } else if (which == FEED) {
                word = words(random);
                a[0] = wild && random.nextInt(5) == 0 ? random.nextInt(11) - 1 : bytesOf(word);
            } else {
                arguments(which, random, model, wild, a);
                if (old && (which == HOURS || which == HOURS + 1)) {
                    a[0] = 240 - random.nextInt(3) * random.nextInt(120);
                }
            }
            int got = ask(sea, which, word, a);
            int want = model.ask(NAMES[which], word, a);
            story.add(NAMES[which] + Arrays.toString(a) + (word == 0 ? "" : " word " + word) + " = " + want);
            if (got != want) {
                for (String line : story) {
                    System.out.println(line);
                }
                System.out.println("run " + run + ": the last one answered " + got);
                return false;
            }
        }
        return true;
    }

    private static int pick(Random random) {
        int sum = 0;
        for (int w : WEIGHTS) {
            sum += w;
        }
        int at = random.nextInt(sum);
        int i = 0;
        while (at >= WEIGHTS[i]) {
            at -= WEIGHTS[i];
            i++;
        }
        return i;
    }

    private static int bytesOf(long word) {
        int n = 1;
        while (n < 8 && word >>> (8 * n) != 0) {
            n++;
        }
        return n;
    }

    private static final String[] PIECES = {
        "b", "h", "m", "t", "p", "k", "b", "t", "b/3", "t*p", "b-m", "t-2", "b%4", "p<9", "k>30", "h=3", "!m",
        "!!b", "(b)", "(t+1)", "9", "12345", "0-9", "2000", "((", "))", "+", "-", "*", "/", "%", "|", "&", "<",
        "=", ">", "!", "(", ")", "0", "7", "b*", "t*", "+b", "+t", "-t*p", "x", " ", "B",
    };

    private static long words(Random random) {
        StringBuilder text = new StringBuilder();
        int n = 1 + random.nextInt(3);
        for (int i = 0; i < n; i++) {
            text.append(PIECES[random.nextInt(PIECES.length)]);
        }
        if (random.nextInt(40) == 0) {
            text.append((char) (128 + random.nextInt(128)));
        }
        return wordOf(text.toString());
    }

    private static long wordOf(String text) {
        long word = 0;
        for (int i = Math.min(8, text.length()) - 1; i >= 0; i--) {
            word = word << 8 | text.charAt(i);
        }
        return word;
    }

    /** A TEXT, mostly; it may be too deep. */
    private static String sentence(Random r, String names, int depth) {
        StringBuilder text = new StringBuilder(operand(r, names, depth));
        int more = r.nextInt(4);
        for (int i = 0; i < more; i++) {
            text.append("|&<=>+-*/%+-*/%+*".charAt(r.nextInt(17))).append(operand(r, names, depth));
        }
        return text.toString();
    }

    private static String operand(Random r, String names, int depth) {
        int choice = r.nextInt(10);
        if (choice < 2 && depth < 7) {
            return "(" + sentence(r, names, depth + 1) + ")";
        }
        if (choice < 3 && depth < 7) {
            return "!" + operand(r, names, depth + 1);
        }
        return choice < 6 ? String.valueOf(r.nextInt(1 << r.nextInt(14))) : names.substring(r.nextInt(3)).substring(0, 1);
    }

    private static String spoilt(Random r, String text) {
        if (r.nextInt(3) != 0) {
            return text;
        }
        int at = r.nextInt(text.length());
        String odd = "()!<=>+x9|".substring(r.nextInt(10)).substring(0, 1);
        return (text.substring(0, at) + odd + text.substring(at + r.nextInt(2))).substring(0, Math.min(60, text.length()));
    }

    private static final int[] ODD = {
        -1, -2, 4, 5, 6, 7, 8, 9, 10, 14, 23, 24, 25, 40, 41, 48, 49, 69, 70, 99, 100, 240, 241, 400, 404, 9999, 10000,
        Integer.MAX_VALUE, Integer.MIN_VALUE, Integer.MAX_VALUE - 1,
    };

    private static int less(Random random, int n) {
        return random.nextInt(Math.max(1, n));
    }

    private static void arguments(int which, Random r, PlainModel model, boolean wild, int[] a) {
        int boats = model.boats.size();
        switch (NAMES[which]) {
            case "wind" -> fill(a, less(r, 24), r.nextInt(4) == 0 ? r.nextInt(4) : 10 * less(r, 41) + less(r, 4));
            case "price" -> fill(a, less(r, 4), less(r, 100));
            case "boat" -> fill(a, less(r, 70), less(r, r.nextBoolean() ? 24 : 6));
            case "boatIs" -> fill(a, less(r, boats), less(r, 10));
            case "as" -> fill(a, less(r, boats), less(r, 7));
            case "set" -> {
                int[] most = {7, 10, 24, 4, 100, 1, 1, 2};
                int what = less(r, 8);
                fill(a, less(r, boats), what, less(r, most[what]));
            }
            case "pay" -> fill(a, less(r, boats), 1 + less(r, r.nextBoolean() ? 50 : 9999));
            case "blows" -> fill(a, less(r, 24));
            case "gone" -> fill(a, less(r, 6));
            case "text", "untell" -> fill(a, less(r, 2));
            case "hours", "loose" -> fill(a, 1 + less(r, r.nextInt(8) == 0 ? 240 : 6));
            case "seed" -> fill(a, r.nextInt());
            case "then" -> fill(a, less(r, r.nextInt(8) == 0 ? 241 : 30), less(r, boats), less(r, 10));
            case "income" -> fill(a, less(r, r.nextInt(8) == 0 ? 241 : 30));
            case "dearest" -> fill(a, less(r, 4), 1 + less(r, r.nextInt(8) == 0 ? 48 : 6));
            case "lee" -> fill(a, less(r, boats), less(r, boats));
            case "who" -> fill(a, less(r, 5), r.nextBoolean() ? model.knots() / (1 + less(r, 5)) : less(r, 41), less(r, 4));
            case "voyage" -> fill(a, less(r, 24), less(r, 24), less(r, 25));
            case "voice" -> fill(a, less(r, boats), less(r, 4), r.nextBoolean() ? less(r, 50) - 25 : r.nextInt());
            case "body" -> fill(a, less(r, 8));
            case "sheet" -> fill(a, less(r, 4), 8 << less(r, 3), less(r, 25));
            case "put" -> fill(a, less(r, 4), less(r, r.nextBoolean() ? 8 : 24), number(r, model));
            case "move" -> fill(a, less(r, 4), less(r, 8), less(r, 4), less(r, 8), less(r, 12));
            case "winds", "judge" -> fill(a, less(r, 4));
            case "tell" -> fill(a, less(r, 24));
            case "check" -> fill(a, less(r, boats));
            case "count" -> fill(a, less(r, 14));
            case "told" -> fill(a, 1 + less(r, 6));
            default -> { }
        }
        if (wild && r.nextInt(4) == 0 || r.nextInt(40) == 0) {
            a[less(r, 5)] = r.nextInt(6) == 0 ? r.nextInt() : ODD[less(r, ODD.length)];
        }
    }

    private static int number(Random r, PlainModel model) {
        return switch (r.nextInt(3)) {
            case 0 -> less(r, 12);
            case 1 -> 10 * less(r, 41) + less(r, 4);
            default -> r.nextInt();
        };
    }

    private static void fill(int[] a, int... values) {
        System.arraycopy(values, 0, a, 0, values.length);
    }

    private static int ask(WindPrice s, int which, long word, int[] a) {
        return switch (NAMES[which]) {
            case "wind" -> s.wind(a[0], a[1]);
            case "price" -> s.price(a[0], a[1]);
            case "boat" -> s.boat(a[0], a[1]);
            case "boatIs" -> s.boatIs(a[0], a[1]);
            case "as" -> s.as(a[0], a[1]);
            case "set" -> s.set(a[0], a[1], a[2]);
            case "pay" -> s.pay(a[0], a[1]);
            case "blows" -> s.blows(a[0]);
            case "gone" -> s.gone(a[0]);
            case "feed" -> s.feed(word, a[0]);
            case "text" -> s.text(a[0]);
            case "untell" -> s.untell(a[0]);
            case "hours" -> s.hours(a[0]);
            case "loose" -> s.loose(a[0]);
            case "seed" -> s.seed(a[0]);
            case "then" -> s.then(a[0], a[1], a[2]);
            case "income" -> s.income(a[0]);
            case "dearest" -> s.dearest(a[0], a[1]);
            case "lee" -> s.lee(a[0], a[1]);
            case "who" -> s.who(a[0], a[1], a[2]);
            case "voyage" -> s.voyage(a[0], a[1], a[2]);
            case "voice" -> s.voice(a[0], a[1], a[2]);
            case "body" -> s.body(a[0]);
            case "sheet" -> s.sheet(a[0], a[1], a[2]);
            case "put" -> s.put(a[0], a[1], a[2]);
            case "move" -> s.move(a[0], a[1], a[2], a[3], a[4]);
            case "winds" -> s.winds(a[0]);
            case "judge" -> s.judge(a[0]);
            case "image" -> s.image();
            case "restore" -> s.restore();
            case "tell" -> s.tell(a[0]);
            case "check" -> s.check(a[0]);
            case "count" -> s.count(a[0]);
            default -> s.told(a[0]);
        };
    }
}

/** An ERROR of the model, thrown where it is found. */
final class Refused extends RuntimeException {
    private static final long serialVersionUID = 1;
    final int k;

    Refused(int k) {
        super(null, null, false, false);
        this.k = k;
    }

    static void unless(boolean fine, int k) {
        if (!fine) {
            throw new Refused(k);
        }
    }
}

/** Plain words for plain promises: no thought of speed, or of room. */
final class PlainModel {
    static final int BEYOND = 1, NONE = 2, STATE = 3, FULL = 4, KIND = 5, PARTED = 6;

    int[][] wind = new int[24][2];
    int[] prices = {3, 3, 3, 3};
    List<PlainBoat> boats = new ArrayList<>();
    int hour;
    String tape = "";
    String[] texts = new String[2];
    List<Integer> waiting = new ArrayList<>();
    int z = 1;
    int[][] sheets = new int[4][];
    int[] bits = new int[4];
    List<Integer> trace = new ArrayList<>();
    int[] told = new int[7];
    PlainModel image;
    int images;

    PlainModel() {
        for (int[] w : wind) {
            w[0] = 10;
            w[1] = 3;
        }
    }

    PlainModel copy() {
        PlainModel c = new PlainModel();
        c.take(this);
        return c;
    }

    void take(PlainModel other) {
        for (int i = 0; i < 24; i++) {
            wind[i] = other.wind[i].clone();
        }
        prices = other.prices.clone();
        boats = new ArrayList<>();
        for (PlainBoat b : other.boats) {
            boats.add(b.copy());
        }
        hour = other.hour;
        tape = other.tape;
        texts = other.texts.clone();
        waiting = new ArrayList<>(other.waiting);
        z = other.z;
    }

    int ask(String name, long word, int[] a) {
        try {
            return answer(name, word, a);
        } catch (Refused r) {
            told[r.k]++;
            return -1000000000 - r.k;
        }
    }

    private int answer(String name, long word, int[] a) {
        return switch (name) {
            case "wind", "price", "boat", "boatIs", "as", "set", "pay", "blows", "gone" -> ofBoats(name, a);
            case "feed", "text", "untell" -> ofTexts(name, word, a);
            case "hours", "loose", "seed", "then", "income", "dearest" -> ofHours(name, a);
            case "lee", "who", "voyage" -> ofLines(name, a);
            case "sheet", "put", "move", "winds", "judge" -> ofSheets(name, a);
            default -> ofRest(name, a);
        };
    }

    static void range(int v, int low, int high) {
        Refused.unless(v >= low && v <= high, BEYOND);
    }

    PlainBoat boatOf(int number) {
        range(number, 0, boats.size() - 1);
        return boats.get(number);
    }

    int knots() {
        return wind[hour % 24][0];
    }

    int way() {
        return wind[hour % 24][1];
    }

    static boolean isWind(int kw) {
        for (int knots = 0; knots <= 40; knots++) {
            for (int way = 0; way <= 3; way++) {
                if (kw == 10 * knots + way) {
                    return true;
                }
            }
        }
        return false;
    }

    // what each boat takes: through every cell of every line; skip: the boats that do not take
    int[] blew = new int[24];
    int[] goneBehind = new int[6];

    int[] takes(List<Integer> skip) {
        int[] took = new int[boats.size()];
        int way = way();
        int lines = way == 0 || way == 2 ? 6 : 4;
        int length = 10 - lines;
        for (int line = 0; line < lines; line++) {
            int b = knots();
            for (int i = 0; i < length; i++) {
                int cell = switch (way) {
                    case 0 -> 6 * i + line;
                    case 1 -> 6 * line + 5 - i;
                    case 2 -> 6 * (3 - i) + line;
                    default -> 6 * line + i;
                };
                blew[cell] = b;
                for (int n = 0; n < boats.size(); n++) {
                    if (boats.get(n).cell == cell && !skip.contains(n)) {
                        took[n] = wants(boats.get(n), b);
                        b -= took[n];
                    }
                }
            }
            goneBehind[line] = b;
        }
        return took;
    }

    boolean furled(PlainBoat boat) {
        return prices[boat.cell / 6] > boat.limit && boat.grant == 0;
    }

    int wants(PlainBoat boat, int b) {
        if (furled(boat)) {
            return 0;
        }
        int grinds = texts[0] == null ? b / 3 : new PlainText(texts[0], "bhm", b, hour % 24, boat.m).value();
        int wish = boat.shape(0).wish(b, boat.m, grinds);
        return wish < 0 ? 0 : wish > b ? b : wish;
    }

    int part(int number, int what) {
        PlainBoat b = boats.get(number);
        return switch (what) {
            case 0 -> b.kind;
            case 1 -> b.m;
            case 2 -> b.cell;
            case 3 -> b.head;
            case 4 -> b.limit;
            case 5 -> b.owes;
            case 6 -> b.used;
            case 7 -> b.grant;
            case 8 -> takes(List.of())[number];
            default -> furled(b) ? 1 : 0;
        };
    }

    private int ofBoats(String name, int[] a) {
        switch (name) {
            case "wind": {
                range(a[0], 0, 23);
                Refused.unless(isWind(a[1]), BEYOND);
                int was = 10 * wind[a[0]][0] + wind[a[0]][1];
                wind[a[0]] = new int[] {a[1] / 10, a[1] % 10};
                return was;
            }
            case "price": {
                range(a[0], 0, 3);
                range(a[1], 0, 99);
                int was = prices[a[0]];
                prices[a[0]] = a[1];
                return was;
            }
            case "boat":
                range(a[0], 0, 69);
                range(a[1], 0, 23);
                Refused.unless(boats.size() < 8, FULL);
                PlainBoat made = new PlainBoat();
                made.kind = a[0] / 10;
                made.m = a[0] % 10;
                made.cell = a[1];
                boats.add(made);
                return boats.size() - 1;
            case "boatIs":
                boatOf(a[0]);
                range(a[1], 0, 9);
                return part(a[0], a[1]);
            case "as": {
                PlainBoat b = boatOf(a[0]);
                range(a[1], 0, 6);
                Refused.unless(PlainBoat.SHAPES[a[1]].isInstance(b.shape(0)), KIND);
                return b.used;
            }
            case "set":
                return give(boatOf(a[0]), a[1], a[2]);
            case "pay": {
                PlainBoat b = boatOf(a[0]);
                range(a[1], 1, 9999);
                Refused.unless(b.owes > 0, STATE);
                int paid = b.owes < a[1] ? b.owes : a[1];
                b.owes -= paid;
                return paid;
            }
            case "blows":
                range(a[0], 0, 23);
                takes(List.of());
                return blew[a[0]];
            default:
                range(a[0], 0, way() % 2 == 0 ? 5 : 3);
                takes(List.of());
                return goneBehind[a[0]];
        }
    }

    private int give(PlainBoat b, int what, int v) {
        int was;
        switch (what) {
            case 0 -> { range(v, 0, 6); was = b.kind; b.kind = v; }
            case 1 -> { range(v, 0, 9); was = b.m; b.m = v; }
            case 2 -> { range(v, 0, 23); was = b.cell; b.cell = v; }
            case 3 -> { range(v, 0, 3); was = b.head; b.head = v; }
            case 4 -> { range(v, 0, 99); was = b.limit; b.limit = v; }
            case 7 -> { range(v, 0, 1); was = b.grant; b.grant = v; }
            default -> throw new Refused(BEYOND);
        }
        return was;
    }

    private int ofTexts(String name, long word, int[] a) {
        if (name.equals("feed")) {
            range(a[0], 1, 8);
            Refused.unless(tape.length() + a[0] <= 60, FULL);
            for (int i = 0; i < a[0]; i++) {
                tape += (char) (word >> 8 * i & 255);
            }
            return tape.length();
        }
        range(a[0], 0, 1);
        if (name.equals("untell")) {
            int was = texts[a[0]] == null ? 0 : 1;
            texts[a[0]] = null;
            return was;
        }
        String read = tape;
        tape = "";
        int fault = PlainText.fault(read, a[0] == 0 ? "bhm" : "tpk");
        if (fault >= 0) {
            return -10 - fault;
        }
        texts[a[0]] = read;
        return 1;
    }

    int owed() {
        return boats.stream().mapToInt(b -> b.owes).sum();
    }

    void anHour(int bread) {
        int[] took = takes(List.of());
        int knots = knots();
        int way = way();
        for (int i = 0; i < took.length; i++) {
            boats.get(i).used = Math.min(999999, boats.get(i).used + took[i]);
        }
        for (int i = 0; i < took.length; i++) {
            PlainBoat b = boats.get(i);
            int p = prices[b.cell / 6];
            if (took[i] != 0 && b.grant == 0) {
                int bill = took[i] * p;
                if (knots > 30) {
                    bill = bill - 2 * took[i];
                }
                if (texts[1] != null) {
                    bill = new PlainText(texts[1], "tpk", took[i], p, knots).value();
                    bill = bill > 9999 ? 9999 : bill < -9999 ? -9999 : bill;
                }
                b.owe(bill);
            }
        }
        if (knots == 0) {
            for (PlainBoat b : boats) {
                b.owe(b.kind == 4 ? -b.m : 0);
            }
        }
        for (int i = 0; i < took.length; i++) {
            PlainBoat b = boats.get(i);
            boolean rows = b.shape(0) instanceof RowerShape;
            boolean sails = b.shape(0) instanceof SailerShape && took[i] >= 3 && b.head != way;
            if (rows) {
                b.owe(bread);
            }
            if (rows || sails) {
                b.step();
            }
        }
        hour++;
    }

    private PlainModel ahead(int n, int bread) {
        PlainModel m = copy();
        for (int i = 0; i < n; i++) {
            m.anHour(bread);
        }
        return m;
    }

    private int ofHours(String name, int[] a) {
        switch (name) {
            case "hours":
            case "loose":
                range(a[0], 1, 240);
                Refused.unless(hour + a[0] <= 9999, STATE);
                for (int i = 0; i < a[0]; i++) {
                    if (name.equals("loose")) {
                        z = z * 1103515245 + 12345;
                        int knots = knots() + (z >>> 8) % 7 - 3;
                        wind[hour % 24][0] = Math.max(0, Math.min(40, knots));
                    }
                    anHour(1);
                }
                return owed();
            case "seed":
                int was = z;
                z = a[0];
                return was;
            case "then":
                range(a[0], 0, 240);
                boatOf(a[1]);
                range(a[2], 0, 9);
                return ahead(a[0], 1).part(a[1], a[2]);
            case "income":
                range(a[0], 0, 240);
                return ahead(a[0], 0).owed() - owed();
            default:
                range(a[0], 0, 3);
                range(a[1], 1, 48);
                int best = -1;
                int most = 0;
                for (int v = 0; v <= 99; v++) {
                    PlainModel m = copy();
                    m.prices[a[0]] = v;
                    int comes = m.ahead(a[1], 0).owed() - owed();
                    if (best < 0 || comes > most) {
                        best = v;
                        most = comes;
                    }
                }
                return best;
        }
    }

    private int ofLines(String name, int[] a) {
        switch (name) {
            case "lee":
                boatOf(a[0]);
                boatOf(a[1]);
                Refused.unless(a[0] != a[1], BEYOND);
                return takes(List.of(a[1]))[a[0]] - takes(List.of())[a[0]];
            case "who":
                range(a[0], 0, way() % 2 == 0 ? 5 : 3);
                range(a[1], 0, 40);
                range(a[2], 0, 3);
                return sets(a[0], a[1], a[2]);
            default:
                range(a[0], 0, 23);
                range(a[1], 0, 23);
                range(a[2], 0, 24);
                int coins = coinsOf(a[0], a[1], a[2]);
                Refused.unless(coins < 1000000, NONE);
                return coins;
        }
    }

    private int sets(int line, int knots, int what) {
        List<Integer> found = new ArrayList<>();
        List<Integer> there = new ArrayList<>();
        for (int i = 0; i < boats.size(); i++) {
            int cell = boats.get(i).cell;
            if ((way() % 2 == 0 ? cell % 6 : cell / 6) == line) {
                there.add(i);
            }
        }
        for (int bits = 0; bits < 1 << there.size(); bits++) {
            List<Integer> skip = new ArrayList<>();
            int set = 0;
            for (int i = 0; i < there.size(); i++) {
                if ((bits >> i & 1) == 0) {
                    skip.add(there.get(i));
                } else {
                    set += 1 << there.get(i);
                }
            }
            takes(skip);
            if (goneBehind[line] == knots) {
                found.add(set);
            }
        }
        switch (what) {
            case 0:
                return found.size();
            case 1:
                return found.stream().mapToInt(x -> x).min().orElseThrow(() -> new Refused(NONE));
            case 2:
                return found.stream().reduce((x, y) -> x & y).orElseThrow(() -> new Refused(NONE));
            default:
                return found.stream().reduce(0, (x, y) -> x | y);
        }
    }

    /** Backwards: what each cell still costs with so many hours left. */
    private int coinsOf(int from, int to, int n) {
        int[] cost = new int[24];
        Arrays.fill(cost, 1000000);
        cost[to] = 0;
        for (int h = n - 1; h >= 0; h--) {
            int[] w = wind[(hour + h) % 24];
            int[] before = cost.clone();
            for (int cell = 0; cell < 24; cell++) {
                int[] next = {
                    cell > 5 ? cell - 6 : -1, cell % 6 < 5 ? cell + 1 : -1, cell < 18 ? cell + 6 : -1, cell % 6 > 0 ? cell - 1 : -1,
                };
                for (int way = 0; way < 4; way++) {
                    if (next[way] >= 0) {
                        before[cell] = Math.min(before[cell], 2 + cost[next[way]]);
                        if (w[0] >= 6 && w[1] != way) {
                            before[cell] = Math.min(before[cell], 3 * prices[cell / 6] + cost[next[way]]);
                        }
                    }
                }
            }
            cost = before;
        }
        return cost[from];
    }

    private int ofSheets(String name, int[] a) {
        range(a[0], 0, 3);
        switch (name) {
            case "sheet":
                Refused.unless(List.of(0, 8, 16, 32).contains(a[1]), BEYOND);
                if (a[1] != 0) {
                    Refused.unless(a[2] >= 0, STATE);
                    range(a[2], 0, 24);
                }
                bits[a[0]] = a[1];
                sheets[a[0]] = a[1] == 0 ? null : new int[a[2]];
                return 1;
            case "move":
                range(a[2], 0, 3);
                Refused.unless(sheets[a[0]] != null && sheets[a[2]] != null, NONE);
                Refused.unless(bits[a[0]] == bits[a[2]], KIND);
                try {
                    System.arraycopy(sheets[a[0]], a[1], sheets[a[2]], a[3], a[4]);
                } catch (IndexOutOfBoundsException e) {
                    throw new Refused(BEYOND);
                }
                return a[4];
            case "put":
                Refused.unless(sheets[a[0]] != null, NONE);
                range(a[1], 0, sheets[a[0]].length - 1);
                int shift = 32 - bits[a[0]];
                sheets[a[0]][a[1]] = a[2] << shift >> shift;
                return 1;
            case "winds":
                Refused.unless(sheets[a[0]] != null, NONE);
                for (int i = 0; i < sheets[a[0]].length; i++) {
                    if (!isWind(sheets[a[0]][i])) {
                        return i;
                    }
                    wind[i] = new int[] {sheets[a[0]][i] / 10, sheets[a[0]][i] % 10};
                }
                return sheets[a[0]].length;
            default:
                Refused.unless(sheets[a[0]] != null, NONE);
                int[] took = takes(List.of());
                for (int i = 0; i < took.length; i++) {
                    if (i >= sheets[a[0]].length || sheets[a[0]][i] != took[i]) {
                        return i;
                    }
                }
                return took.length;
        }
    }

    private int ofRest(String name, int[] a) {
        switch (name) {
            case "voice":
                PlainBoat b = boatOf(a[0]);
                range(a[1], 0, 3);
                trace.clear();
                BoatShape shape = b.shape(a[0]);
                shape.trace = trace;
                return switch (a[1]) {
                    case 0 -> shape.sails(a[2]);
                    case 1 -> shape.takes(a[2]);
                    case 2 -> shape.owes(a[2]);
                    default -> shape.parts(a[2]);
                };
            case "body":
                Refused.unless(a[0] >= 0 && a[0] < trace.size(), NONE);
                return trace.get(a[0]);
            case "image":
                image = copy();
                return ++images;
            case "restore":
                Refused.unless(image != null, NONE);
                take(image);
                return hour;
            case "tell":
                Refused.unless(waiting.size() < 24, FULL);
                waiting.add(a[0]);
                return waiting.size();
            case "check":
                List<Integer> cells = waiting;
                waiting = new ArrayList<>();
                boatOf(a[0]);
                for (int i = 0; i < cells.size(); i++) {
                    if (ahead(i + 1, 1).boats.get(a[0]).cell != cells.get(i)) {
                        return 1 + i;
                    }
                }
                return 0;
            case "told":
                range(a[0], 1, 6);
                return told[a[0]];
            default:
                return counted(a[0]);
        }
    }

    private int counted(int what) {
        range(what, 0, 13);
        return switch (what) {
            case 0 -> boats.size();
            case 1 -> hour;
            case 2 -> knots();
            case 3 -> way();
            case 4 -> owed();
            case 5 -> boats.stream().mapToInt(b -> b.used).sum();
            case 6 -> tape.length();
            case 7 -> waiting.size();
            case 8 -> Math.min(30, trace.size());
            case 9 -> z;
            default -> prices[what - 10];
        };
    }
}

final class PlainBoat {
    static final Class<?>[] SHAPES = {
        BoatShape.class, SailerShape.class, RowerShape.class, KiteShape.class, LicensedShape.class, BargeShape.class, MillShape.class,
    };
    int kind, m, cell, head = 1, limit = 99, owes, used, grant;

    PlainBoat copy() {
        PlainBoat b = new PlainBoat();
        b.kind = kind;
        b.m = m;
        b.cell = cell;
        b.head = head;
        b.limit = limit;
        b.owes = owes;
        b.used = used;
        b.grant = grant;
        return b;
    }

    void owe(int coins) {
        owes = Math.max(-999999, Math.min(999999, owes + coins));
    }

    void step() {
        int row = cell / 6 + (head == 0 ? -1 : head == 2 ? 1 : 0);
        int column = cell % 6 + (head == 1 ? 1 : head == 3 ? -1 : 0);
        if (row < 0 || row > 3 || column < 0 || column > 5) {
            head = new int[] {2, 3, 0, 1}[head];
        } else {
            cell = 6 * row + column;
        }
    }

    BoatShape shape(int number) {
        BoatShape shape = switch (kind) {
            case 0 -> new BoatShape();
            case 1 -> new SailerShape();
            case 2 -> new RowerShape();
            case 3 -> new KiteShape();
            case 4 -> new LicensedShape();
            case 5 -> new BargeShape();
            default -> new MillShape();
        };
        shape.k = number;
        shape.m = m;
        return shape;
    }
}

class BoatShape {
    int k, m;
    List<Integer> trace = new ArrayList<>();

    int wish(int b, int m, int grinds) {
        return 0;
    }

    int sails(int x) {
        trace.add(10);
        return x + k;
    }

    int takes(int x) {
        trace.add(11);
        return sails(x) * 2;
    }

    int owes(int x) {
        trace.add(12);
        return takes(x) - m;
    }

    int parts(int x) {
        trace.add(13);
        Refused.unless(m != k, PlainModel.PARTED);
        return x / (m - k);
    }
}

class SailerShape extends BoatShape {
    @Override
    int wish(int b, int m, int grinds) {
        return b / 2;
    }

    @Override
    int sails(int x) {
        trace.add(20);
        return super.sails(x) - 3;
    }

    @Override
    int parts(int x) {
        trace.add(21);
        return super.parts(x) + takes(1);
    }
}

class RowerShape extends BoatShape {
    @Override
    int takes(int x) {
        trace.add(30);
        return 0 - super.takes(x);
    }
}

final class KiteShape extends SailerShape {
    @Override
    int wish(int b, int m, int grinds) {
        return super.wish(b, m, grinds) + m;
    }

    @Override
    int sails(int x) {
        trace.add(40);
        return super.sails(x) * 3;
    }

    @Override
    int owes(int x) {
        trace.add(41);
        return super.owes(x) ^ k;
    }
}

final class LicensedShape extends SailerShape {
    @Override
    int wish(int b, int m, int grinds) {
        return Math.min(m, super.wish(b, m, grinds));
    }

    @Override
    int owes(int x) {
        trace.add(50);
        return super.owes(x / 2);
    }
}

final class BargeShape extends RowerShape {
    @Override
    int wish(int b, int m, int grinds) {
        return super.wish(b, m, grinds) + b / 4;
    }

    @Override
    int takes(int x) {
        trace.add(60);
        return super.takes(x + 1);
    }
}

final class MillShape extends BoatShape {
    @Override
    int wish(int b, int m, int grinds) {
        return grinds;
    }

    @Override
    int sails(int x) {
        trace.add(70);
        return 5;
    }

    @Override
    int takes(int x) {
        trace.add(71);
        return super.takes(x) + m;
    }
}

/** A TEXT, worked out while it is read; its FAULT is found by a row of open signs, not by reading. */
final class PlainText {
    private final String text;
    private final String names;
    private final int[] values;
    private int at;

    PlainText(String text, String names, int... values) {
        this.text = text;
        this.names = names;
        this.values = values;
    }

    int value() {
        at = 0;
        return any();
    }

    private boolean sees(String signs) {
        return at < text.length() && signs.indexOf(text.charAt(at)) >= 0;
    }

    private int any() {
        int v = both();
        while (sees("|")) {
            at++;
            int w = both();
            v = v != 0 | w != 0 ? 1 : 0;
        }
        return v;
    }

    private int both() {
        int v = compared();
        while (sees("&")) {
            at++;
            int w = compared();
            v = v != 0 & w != 0 ? 1 : 0;
        }
        return v;
    }

    private int compared() {
        int v = sum();
        if (sees("<=>")) {
            char sign = text.charAt(at++);
            int w = sum();
            return (sign == '<' ? v < w : sign == '=' ? v == w : v > w) ? 1 : 0;
        }
        return v;
    }

    private int sum() {
        int v = product();
        while (sees("+-")) {
            v = text.charAt(at++) == '+' ? v + product() : v - product();
        }
        return v;
    }

    private int product() {
        int v = simple();
        while (sees("*/%")) {
            char sign = text.charAt(at++);
            int w = simple();
            v = sign == '*' ? v * w : w == 0 ? 0 : sign == '/' ? v / w : v % w;
        }
        return v;
    }

    private int simple() {
        char c = text.charAt(at++);
        if (c == '!') {
            return simple() == 0 ? 1 : 0;
        }
        if (c == '(') {
            int v = any();
            at++;
            return v;
        }
        if (names.indexOf(c) >= 0) {
            return values[names.indexOf(c)];
        }
        int v = c - '0';
        while (sees("0123456789")) {
            v = 10 * v + text.charAt(at++) - '0';
        }
        return v;
    }

    /** The place of the FAULT; -1 if there is none. */
    static int fault(String text, String names) {
        Deque<Character> open = new ArrayDeque<>();
        Deque<Boolean> compared = new ArrayDeque<>();
        compared.push(false);
        boolean wantsOperand = true;
        int digits = 0;
        for (int i = 0; i < text.length(); i++) {
            char c = text.charAt(i);
            boolean digit = c >= '0' && c <= '9';
            if (digit && digits > 0) {
                digits++;
                if (digits > 4) {
                    return i;
                }
                continue;
            }
            digits = 0;
            if (wantsOperand) {
                if (c == '!' || c == '(') {
                    if (open.size() == 5) {
                        return i;
                    }
                    open.push(c);
                    if (c == '(') {
                        compared.push(false);
                    }
                } else if (digit || names.indexOf(c) >= 0) {
                    digits = digit ? 1 : 0;
                    wantsOperand = false;
                    closeNots(open);
                } else {
                    return i;
                }
            } else if (c == ')') {
                if (open.isEmpty()) {
                    return i;
                }
                open.pop();
                compared.pop();
                closeNots(open);
            } else if ("<=>".indexOf(c) >= 0) {
                if (compared.pop()) {
                    return i;
                }
                compared.push(true);
                wantsOperand = true;
            } else if ("|&".indexOf(c) >= 0) {
                compared.pop();
                compared.push(false);
                wantsOperand = true;
            } else if ("+-*/%".indexOf(c) >= 0) {
                wantsOperand = true;
            } else {
                return i;
            }
        }
        return wantsOperand || !open.isEmpty() ? text.length() : -1;
    }

    private static void closeNots(Deque<Character> open) {
        while (!open.isEmpty() && open.peek() == '!') {
            open.pop();
        }
    }
}
