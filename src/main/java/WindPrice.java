import java.util.Arrays;

/**
 * An inland sea whose wind has a price: it blows from cell to cell, boats take it knot by knot,
 * and what they took is billed. The words in capitals are those of the document.
 */
public final class WindPrice {
    private static final int LOW = -1000000000;
    private static final int BEYOND = 1;
    private static final int NONE = 2;
    private static final int STATE = 3;
    private static final int FULL = 4;
    private static final int UNLIKE = 5;
    private static final int PARTED = 6;

    private static final int ROWS = 4;
    private static final int COLUMNS = 6;
    private static final int CELLS = 24;
    private static final int DAY = 24;
    private static final int LAST_HOUR = 9999;
    private static final int KNOTS_MOST = 40;
    private static final int PRICE_MOST = 99;
    private static final int BOATS_MOST = 8;
    private static final int AHEAD_MOST = 240;
    private static final int DEAREST_MOST = 48;
    private static final int VOYAGE_MOST = 24;
    private static final int PAID_MOST = 9999;

    private static final int NORTH = 0;
    private static final int EAST = 1;
    private static final int SOUTH = 2;
    private static final int WEST = 3;

    private static final int SAILER = 1;
    private static final int ROWER = 2;
    private static final int KITE = 3;
    private static final int LICENSED = 4;
    private static final int BARGE = 5;
    private static final int MILL = 6;
    private static final int[] KIND_ABOVE = {-1, 0, 0, 1, 1, 2, 0};

    private static final int GRINDS = 0;
    private static final int BILL = 1;
    private static final int USES = 2;
    private static final int TAPE_MOST = 60;
    private static final int FAULT_AT_0 = -10;

    private static final int SHEETS = 4;
    private static final int NUMBERS_MOST = 24;
    private static final int WAITING_MOST = 24;

    private final Sea now = new Sea();
    private final Sea ahead = new Sea();
    private final Sea keptSea = new Sea();
    private final Desk desk = new Desk();
    private final Desk keptDesk = new Desk();
    private final Reader reader = new Reader();
    private final Voyage route = new Voyage();
    private final Voices voices = new Voices();
    private final Sheet[] sheets = new Sheet[SHEETS];
    private final int[] refusals = new int[PARTED + 1];
    private int images;

    public WindPrice() {
        for (int i = 0; i < SHEETS; i++) {
            sheets[i] = new Sheet();
        }
    }

    // ---- wind, boats

    public int wind(int hour, int kw) {
        if (!within(hour, 0, DAY - 1) || !isWind(kw)) {
            return refuse(BEYOND);
        }
        int was = now.windAt[hour];
        now.windAt[hour] = kw;
        return was;
    }

    public int price(int quarter, int v) {
        if (!within(quarter, 0, ROWS - 1) || !within(v, 0, PRICE_MOST)) {
            return refuse(BEYOND);
        }
        int was = now.prices[quarter];
        now.prices[quarter] = v;
        return was;
    }

    public int boat(int km, int cell) {
        if (!within(km, 0, MILL * 10 + 9) || !within(cell, 0, CELLS - 1)) {
            return refuse(BEYOND);
        }
        if (now.size >= BOATS_MOST) {
            return refuse(FULL);
        }
        now.add(km / 10, km % 10, cell);
        return now.size - 1;
    }

    public int boatIs(int boat, int what) {
        if (now.find(boat) == null || !within(what, 0, 9)) {
            return refuse(BEYOND);
        }
        return now.partOf(boat, what);
    }

    public int as(int boat, int kind) {
        Boat found = now.find(boat);
        if (found == null || !within(kind, 0, MILL)) {
            return refuse(BEYOND);
        }
        return isUnder(found.kind, kind) ? found.used : refuse(UNLIKE);
    }

    public int set(int boat, int what, int v) {
        Boat found = now.find(boat);
        if (found == null || !within(v, 0, Boat.mostOf(what))) {
            return refuse(BEYOND);
        }
        int was = found.part(what);
        found.become(what, v);
        return was;
    }

    public int pay(int boat, int coins) {
        Boat found = now.find(boat);
        if (found == null || !within(coins, 1, PAID_MOST)) {
            return refuse(BEYOND);
        }
        if (found.owes <= 0) {
            return refuse(STATE);
        }
        int paid = Math.min(coins, found.owes);
        found.owe(-paid);
        return paid;
    }

    public int blows(int cell) {
        return within(cell, 0, CELLS - 1) ? now.blowsIn(cell) : refuse(BEYOND);
    }

    public int gone(int line) {
        if (!now.hasLine(line)) {
            return refuse(BEYOND);
        }
        now.take(Sea.ALL);
        return now.left[line];
    }

    // ---- texts

    public int feed(long word, int n) {
        if (!within(n, 1, 8)) {
            return refuse(BEYOND);
        }
        if (desk.bytes + n > TAPE_MOST) {
            return refuse(FULL);
        }
        for (int i = 0; i < n; i++) {
            desk.addByte((int) (word >>> (8 * i)) & 255);
        }
        return desk.bytes;
    }

    public int text(int use) {
        if (!within(use, 0, USES - 1)) {
            return refuse(BEYOND);
        }
        Text read = reader.read(desk, use);
        desk.bytes = 0;
        if (read == null) {
            return FAULT_AT_0 - reader.place;
        }
        now.texts[use] = read;
        return 1;
    }

    public int untell(int use) {
        if (!within(use, 0, USES - 1)) {
            return refuse(BEYOND);
        }
        int was = now.texts[use] == null ? 0 : 1;
        now.texts[use] = null;
        return was;
    }

    // ---- hours

    public int hours(int n) {
        int error = errorOfHours(n);
        if (error != 0) {
            return refuse(error);
        }
        now.goBy(n, true);
        return now.owed();
    }

    public int loose(int n) {
        int error = errorOfHours(n);
        if (error != 0) {
            return refuse(error);
        }
        for (int i = 0; i < n; i++) {
            now.loosen(desk.draw() % 7 - 3);
            now.goBy(1, true);
        }
        return now.owed();
    }

    public int seed(int v) {
        int was = desk.z;
        desk.z = v;
        return was;
    }

    private int errorOfHours(int n) {
        if (!within(n, 1, AHEAD_MOST)) {
            return BEYOND;
        }
        return now.hour + n > LAST_HOUR ? STATE : 0;
    }

    // ---- ahead, voyages

    public int then(int n, int boat, int what) {
        if (!within(n, 0, AHEAD_MOST) || now.find(boat) == null || !within(what, 0, 9)) {
            return refuse(BEYOND);
        }
        ahead.copy(now);
        ahead.goBy(n, true);
        return ahead.partOf(boat, what);
    }

    public int income(int n) {
        if (!within(n, 0, AHEAD_MOST)) {
            return refuse(BEYOND);
        }
        ahead.copy(now);
        return incomeAhead(n);
    }

    public int dearest(int quarter, int n) {
        if (!within(quarter, 0, ROWS - 1) || !within(n, 1, DEAREST_MOST)) {
            return refuse(BEYOND);
        }
        int best = 0;
        int most = Integer.MIN_VALUE;
        for (int v = 0; v <= PRICE_MOST; v++) {
            ahead.copy(now);
            ahead.prices[quarter] = v;
            int comes = incomeAhead(n);
            if (comes > most) {
                most = comes;
                best = v;
            }
        }
        return best;
    }

    public int lee(int one, int other) {
        Boat found = now.find(one);
        if (found == null || now.find(other) == null || one == other) {
            return refuse(BEYOND);
        }
        now.take(Sea.ALL);
        int with = found.took;
        now.take(Sea.ALL & ~(1 << other));
        return found.took - with;
    }

    public int who(int line, int knots, int what) {
        if (!now.hasLine(line) || !within(knots, 0, KNOTS_MOST) || !within(what, 0, 3)) {
            return refuse(BEYOND);
        }
        int inLine = now.boatsOf(line);
        int sets = 0;
        int least = 0;
        int surely = inLine;
        int maybe = 0;
        for (int set = 0; set <= Sea.ALL; set++) {
            if ((set & ~inLine) == 0 && now.leaves(set, line, knots)) {
                least = sets == 0 ? set : least;
                surely &= set;
                maybe |= set;
                sets++;
            }
        }
        if (what == 0) {
            return sets;
        }
        if (what == 3) {
            return maybe;
        }
        if (sets == 0) {
            return refuse(NONE);
        }
        return what == 1 ? least : surely;
    }

    public int voyage(int from, int to, int n) {
        if (!within(from, 0, CELLS - 1) || !within(to, 0, CELLS - 1) || !within(n, 0, VOYAGE_MOST)) {
            return refuse(BEYOND);
        }
        int coins = route.fewest(now, from, to, n);
        return coins < Voyage.FAR ? coins : refuse(NONE);
    }

    /** INCOME by n of what AHEAD holds already: the sea of now, but for a PRICE. */
    private int incomeAhead(int n) {
        ahead.goBy(n, false);
        return ahead.owed() - now.owed();
    }

    // ---- voices, sheets, images, what is told

    public int voice(int boat, int voice, int x) {
        Boat found = now.find(boat);
        if (found == null || !within(voice, Voices.SAILS, Voices.PARTS)) {
            return refuse(BEYOND);
        }
        int answer = voices.speak(found, boat, voice, x);
        return voices.parted ? refuse(PARTED) : answer;
    }

    public int body(int i) {
        return within(i, 0, voices.bodies - 1) ? voices.trace[i] : refuse(NONE);
    }

    public int sheet(int sheet, int bits, int n) {
        Sheet found = findSheet(sheet);
        if (found == null || !Sheet.mayHave(bits)) {
            return refuse(BEYOND);
        }
        if (bits == Sheet.MISSING) {
            found.begin(bits, 0);
            return 1;
        }
        if (n < 0) {
            return refuse(STATE);
        }
        if (n > NUMBERS_MOST) {
            return refuse(BEYOND);
        }
        found.begin(bits, n);
        return 1;
    }

    public int put(int sheet, int i, int v) {
        Sheet found = findSheet(sheet);
        if (found == null || found.isMissing()) {
            return refuse(found == null ? BEYOND : NONE);
        }
        if (!within(i, 0, found.size - 1)) {
            return refuse(BEYOND);
        }
        found.write(i, v);
        return 1;
    }

    public int move(int sheet, int i, int other, int j, int n) {
        Sheet from = findSheet(sheet);
        Sheet to = findSheet(other);
        if (from == null || to == null) {
            return refuse(BEYOND);
        }
        if (from.isMissing() || to.isMissing()) {
            return refuse(NONE);
        }
        if (from.bits != to.bits) {
            return refuse(UNLIKE);
        }
        if (!from.holds(i, n) || !to.holds(j, n)) {
            return refuse(BEYOND);
        }
        System.arraycopy(from.numbers, i, to.numbers, j, n);
        return n;
    }

    public int winds(int sheet) {
        Sheet found = findSheet(sheet);
        if (found == null || found.isMissing()) {
            return refuse(found == null ? BEYOND : NONE);
        }
        int came = 0;
        while (came < found.size && came < DAY && isWind(found.numbers[came])) {
            now.windAt[came] = found.numbers[came];
            came++;
        }
        return came;
    }

    public int judge(int sheet) {
        Sheet found = findSheet(sheet);
        if (found == null || found.isMissing()) {
            return refuse(found == null ? BEYOND : NONE);
        }
        now.take(Sea.ALL);
        int alike = 0;
        while (alike < now.size && alike < found.size && now.boats[alike].took == found.numbers[alike]) {
            alike++;
        }
        return alike;
    }

    public int image() {
        keptSea.copy(now);
        keptDesk.copy(desk);
        images++;
        return images;
    }

    public int restore() {
        if (images == 0) {
            return refuse(NONE);
        }
        now.copy(keptSea);
        desk.copy(keptDesk);
        return now.hour;
    }

    public int tell(int v) {
        if (desk.waits >= WAITING_MOST) {
            return refuse(FULL);
        }
        desk.addNumber(v);
        return desk.waits;
    }

    public int check(int boat) {
        int waits = desk.waits;
        desk.waits = 0;
        ahead.copy(now);
        Boat found = ahead.find(boat);
        if (found == null) {
            return refuse(BEYOND);
        }
        for (int i = 0; i < waits; i++) {
            ahead.goBy(1, true);
            if (found.cell != desk.waiting[i]) {
                return 1 + i;
            }
        }
        return 0;
    }

    public int count(int what) {
        switch (what) {
            case 0:
                return now.size;
            case 1:
                return now.hour;
            case 2:
                return now.knots();
            case 3:
                return now.way();
            case 4:
                return now.owed();
            case 5:
                return now.used();
            case 6:
                return desk.bytes;
            case 7:
                return desk.waits;
            case 8:
                return voices.bodies;
            case 9:
                return desk.z;
            default:
                return within(what, 10, 13) ? now.prices[what - 10] : refuse(BEYOND);
        }
    }

    public int told(int k) {
        return within(k, BEYOND, PARTED) ? refusals[k] : refuse(BEYOND);
    }

    /** The one place where an ERROR is answered, so that told() misses none. */
    private int refuse(int k) {
        if (within(k, BEYOND, PARTED)) {
            refusals[k]++;
        }
        return LOW - k;
    }

    private Sheet findSheet(int sheet) {
        return within(sheet, 0, SHEETS - 1) ? sheets[sheet] : null;
    }

    private static boolean within(int v, int least, int most) {
        return v >= least && v <= most;
    }

    private static int held(int v, int least, int most) {
        return Math.max(least, Math.min(most, v));
    }

    private static boolean isWind(int kw) {
        return within(kw, 0, 10 * KNOTS_MOST + WEST) && kw % 10 <= WEST;
    }

    private static boolean isUnder(int kind, int above) {
        int k = kind;
        for (int i = 0; i < KIND_ABOVE.length && within(k, 0, MILL); i++) {
            if (k == above) {
                return true;
            }
            k = KIND_ABOVE[k];
        }
        return false;
    }

    /** The CELL next to one on a side; -1 where THE SEA ends. */
    private static int cellBeside(int cell, int way) {
        int row = cell / COLUMNS;
        int column = cell % COLUMNS;
        switch (way) {
            case NORTH:
                return row > 0 ? cell - COLUMNS : -1;
            case EAST:
                return column < COLUMNS - 1 ? cell + 1 : -1;
            case SOUTH:
                return row < ROWS - 1 ? cell + COLUMNS : -1;
            default:
                return column > 0 ? cell - 1 : -1;
        }
    }

    /** A BOAT; what it took is that of its sea's latest take(). */
    private static final class Boat {
        private static final int OWES_MOST = 999999;
        private static final int USED_MOST = 999999;
        /** Of KIND, m, CELL, HEAD, LIMIT, OWES, USED, GRANT what set() may give at most; -1: nothing. */
        private static final int[] MOST = {6, 9, 23, 3, 99, -1, -1, 1};

        private int kind;
        private int m;
        private int cell;
        private int head;
        private int limit;
        private int owes;
        private int used;
        private int grant;
        private int took;

        static int mostOf(int what) {
            return within(what, 0, MOST.length - 1) ? MOST[what] : -1;
        }

        void begin(int newKind, int newM, int newCell) {
            kind = newKind;
            m = newM;
            cell = newCell;
            head = EAST;
            limit = PRICE_MOST;
            owes = 0;
            used = 0;
            grant = 0;
        }

        void copy(Boat other) {
            kind = other.kind;
            m = other.m;
            cell = other.cell;
            head = other.head;
            limit = other.limit;
            owes = other.owes;
            used = other.used;
            grant = other.grant;
        }

        int part(int what) {
            switch (what) {
                case 0:
                    return kind;
                case 1:
                    return m;
                case 2:
                    return cell;
                case 3:
                    return head;
                case 4:
                    return limit;
                case 5:
                    return owes;
                case 6:
                    return used;
                default:
                    return grant;
            }
        }

        void become(int what, int v) {
            switch (what) {
                case 0:
                    kind = v;
                    break;
                case 1:
                    m = v;
                    break;
                case 2:
                    cell = v;
                    break;
                case 3:
                    head = v;
                    break;
                case 4:
                    limit = v;
                    break;
                default:
                    grant = v;
                    break;
            }
        }

        void owe(int coins) {
            owes = held(owes + coins, -OWES_MOST, OWES_MOST);
        }

        void useUp() {
            used = Math.min(used + took, USED_MOST);
        }

        void goOn() {
            int next = cellBeside(cell, head);
            if (next < 0) {
                head = (head + 2) % 4;
            } else {
                cell = next;
            }
        }
    }

    /** WIND, PRICES, BOATS and TEXTS: all that an HOUR needs to go by. */
    private static final class Sea {
        static final int ALL = (1 << BOATS_MOST) - 1;
        private static final int SAILING_KNOTS = 3;
        private static final int STORM_KNOTS = 30;
        private static final int BILL_MOST = 9999;
        private static final int BREAD = 1;

        private int hour;
        private int size;
        private final int[] windAt = new int[DAY];
        private final int[] prices = new int[ROWS];
        private final Boat[] boats = new Boat[BOATS_MOST];
        private final Text[] texts = new Text[USES];
        private final int[] left = new int[COLUMNS];
        private final int[] order = new int[BOATS_MOST];
        private final int[] stack = new int[TAPE_MOST];

        Sea() {
            Arrays.fill(windAt, 10 * 10 + WEST);
            Arrays.fill(prices, 3);
            for (int i = 0; i < BOATS_MOST; i++) {
                boats[i] = new Boat();
            }
        }

        void copy(Sea other) {
            hour = other.hour;
            size = other.size;
            System.arraycopy(other.windAt, 0, windAt, 0, DAY);
            System.arraycopy(other.prices, 0, prices, 0, ROWS);
            for (int i = 0; i < size; i++) {
                boats[i].copy(other.boats[i]);
            }
            for (int i = 0; i < USES; i++) {
                texts[i] = other.texts[i];
            }
        }

        void add(int kind, int m, int cell) {
            if (size < BOATS_MOST) {
                boats[size].begin(kind, m, cell);
                size++;
            }
        }

        Boat find(int number) {
            return within(number, 0, size - 1) ? boats[number] : null;
        }

        int partOf(int number, int what) {
            Boat boat = find(number);
            if (boat == null) {
                return 0;
            }
            if (what == 8) {
                take(ALL);
                return boat.took;
            }
            if (what == 9) {
                return isFurled(boat) ? 1 : 0;
            }
            return boat.part(what);
        }

        int windLater(int n) {
            return windAt[Math.floorMod(hour + n, DAY)];
        }

        int knots() {
            return windLater(0) / 10;
        }

        int way() {
            return windLater(0) % 10;
        }

        int priceIn(int cell) {
            int quarter = cell / COLUMNS;
            return quarter >= 0 && quarter < ROWS ? prices[quarter] : 0;
        }

        boolean isFurled(Boat boat) {
            return boat.grant == 0 && priceIn(boat.cell) > boat.limit;
        }

        int owed() {
            int sum = 0;
            for (int i = 0; i < size; i++) {
                sum += boats[i].owes;
            }
            return sum;
        }

        int used() {
            int sum = 0;
            for (int i = 0; i < size; i++) {
                sum += boats[i].used;
            }
            return sum;
        }

        boolean hasLine(int line) {
            return within(line, 0, (way() % 2 == 0 ? COLUMNS : ROWS) - 1);
        }

        private static int lineOf(int cell, int way) {
            return Math.floorMod(way % 2 == 0 ? cell % COLUMNS : cell / COLUMNS, COLUMNS);
        }

        /** How many CELLS of its line the WIND meets ahead of this one. */
        private static int cellsAhead(int cell, int way) {
            switch (way) {
                case NORTH:
                    return cell / COLUMNS;
                case EAST:
                    return COLUMNS - 1 - cell % COLUMNS;
                case SOUTH:
                    return ROWS - 1 - cell / COLUMNS;
                default:
                    return cell % COLUMNS;
            }
        }

        /** BOATS sorted as the WIND meets them; the lowest bits of a key are the BOAT's number. */
        private void lineUp(int way) {
            for (int i = 0; i < size; i++) {
                int key = cellsAhead(boats[i].cell, way) * BOATS_MOST + i;
                int j = i;
                while (j > 0 && order[j - 1] > key) {
                    order[j] = order[j - 1];
                    j--;
                }
                order[j] = key;
            }
        }

        /** BOATS of a set (bits by numbers) take, all others being furled; left[] is what is GONE. */
        void take(int set) {
            int way = way();
            lineUp(way);
            Arrays.fill(left, knots());
            for (int i = 0; i < size; i++) {
                int number = order[i] & (BOATS_MOST - 1);
                Boat boat = boats[number];
                int line = lineOf(boat.cell, way);
                boat.took = (set >> number & 1) == 1 ? wants(boat, left[line]) : 0;
                left[line] -= boat.took;
            }
        }

        private int wants(Boat boat, int blowing) {
            if (isFurled(boat)) {
                return 0;
            }
            int wish = 0;
            switch (boat.kind) {
                case SAILER:
                    wish = blowing / 2;
                    break;
                case KITE:
                    wish = blowing / 2 + boat.m;
                    break;
                case LICENSED:
                    wish = Math.min(blowing / 2, boat.m);
                    break;
                case BARGE:
                    wish = blowing / 4;
                    break;
                case MILL:
                    Text grinds = texts[GRINDS];
                    wish = grinds == null ? blowing / 3 : grinds.value(stack, blowing, hour % DAY, boat.m);
                    break;
                default:
                    break;
            }
            return held(wish, 0, blowing);
        }

        int blowsIn(int cell) {
            take(ALL);
            int way = way();
            int blowing = knots();
            for (int i = 0; i < size; i++) {
                int other = boats[i].cell;
                if (lineOf(other, way) == lineOf(cell, way) && cellsAhead(other, way) < cellsAhead(cell, way)) {
                    blowing -= boats[i].took;
                }
            }
            return blowing;
        }

        int boatsOf(int line) {
            int set = 0;
            for (int i = 0; i < size; i++) {
                if (lineOf(boats[i].cell, way()) == line) {
                    set |= 1 << i;
                }
            }
            return set;
        }

        /** Whether a set of BOATS, taking alone, leaves so many KNOTS behind a line. */
        boolean leaves(int set, int line, int knots) {
            take(set);
            return within(line, 0, COLUMNS - 1) && left[line] == knots;
        }

        /** A LOOSE HOUR's draw: KNOTS of this HOUR of the day become more, or fewer, for good. */
        void loosen(int more) {
            windAt[Math.floorMod(hour, DAY)] = 10 * held(knots() + more, 0, KNOTS_MOST) + way();
        }

        /** HOURS go by; without bread for INCOME, which is of wind alone. */
        void goBy(int n, boolean bread) {
            for (int h = 0; h < n; h++) {
                int knots = knots();
                int way = way();
                take(ALL);
                for (int i = 0; i < size; i++) {
                    Boat boat = boats[i];
                    boat.useUp();
                    charge(boat, knots);
                    drive(boat, way, bread);
                }
                hour++;
            }
        }

        private void charge(Boat boat, int knots) {
            if (boat.took > 0 && boat.grant == 0) {
                boat.owe(billOf(boat, knots));
            }
            if (knots == 0 && boat.kind == LICENSED) {
                boat.owe(-boat.m);
            }
        }

        private int billOf(Boat boat, int knots) {
            int price = priceIn(boat.cell);
            Text bill = texts[BILL];
            if (bill != null) {
                return held(bill.value(stack, boat.took, price, knots), -BILL_MOST, BILL_MOST);
            }
            int owedBack = knots > STORM_KNOTS ? 2 * boat.took : 0;
            return boat.took * price - owedBack;
        }

        private void drive(Boat boat, int way, boolean bread) {
            if (isUnder(boat.kind, ROWER)) {
                if (bread) {
                    boat.owe(BREAD);
                }
                boat.goOn();
            } else if (isUnder(boat.kind, SAILER) && boat.took >= SAILING_KNOTS && boat.head != way) {
                boat.goOn();
            }
        }
    }

    /** What lies beside THE SEA, but is of its IMAGE too: THE TAPE, numbers that wait, z. */
    private static final class Desk {
        private final int[] tape = new int[TAPE_MOST];
        private final int[] waiting = new int[WAITING_MOST];
        private int bytes;
        private int waits;
        private int z = 1;

        void copy(Desk other) {
            System.arraycopy(other.tape, 0, tape, 0, TAPE_MOST);
            System.arraycopy(other.waiting, 0, waiting, 0, WAITING_MOST);
            bytes = other.bytes;
            waits = other.waits;
            z = other.z;
        }

        void addByte(int b) {
            if (bytes < TAPE_MOST) {
                tape[bytes] = b;
                bytes++;
            }
        }

        void addNumber(int v) {
            if (waits < WAITING_MOST) {
                waiting[waits] = v;
                waits++;
            }
        }

        int draw() {
            z = z * 1103515245 + 12345;
            return z >>> 8;
        }
    }

    /** A TEXT as a row of words, operands ahead of their sign; it never changes, so seas share it. */
    private static final class Text {
        static final int NAME = 10000;
        static final int SIGN = 20000;

        private final int[] words;

        Text(int[] words) {
            this.words = words;
        }

        int value(int[] stack, int first, int second, int third) {
            int top = 0;
            for (int i = 0; i < words.length; i++) {
                int word = words[i];
                if (word < SIGN) {
                    if (top < stack.length) {
                        stack[top] = word < NAME ? word : named(word - NAME, first, second, third);
                        top++;
                    }
                } else if (word == SIGN + '!') {
                    if (top > 0) {
                        stack[top - 1] = stack[top - 1] == 0 ? 1 : 0;
                    }
                } else if (top > 1) {
                    top--;
                    stack[top - 1] = joined(word - SIGN, stack[top - 1], stack[top]);
                }
            }
            return top > 0 ? stack[0] : 0;
        }

        private static int named(int name, int first, int second, int third) {
            if (name == 0) {
                return first;
            }
            return name == 1 ? second : third;
        }

        private static int joined(int sign, int a, int b) {
            switch (sign) {
                case '|':
                    return a != 0 || b != 0 ? 1 : 0;
                case '&':
                    return a != 0 && b != 0 ? 1 : 0;
                case '<':
                    return a < b ? 1 : 0;
                case '=':
                    return a == b ? 1 : 0;
                case '>':
                    return a > b ? 1 : 0;
                case '+':
                    return a + b;
                case '-':
                    return a - b;
                case '*':
                    return a * b;
                case '/':
                    return b == 0 ? 0 : a / b;
                default:
                    return b == 0 ? 0 : a % b;
            }
        }
    }

    /** Reads THE TAPE from left to right and stops at the FAULT, if there is one. */
    private static final class Reader {
        private static final int COMPARED = 2;
        private static final int SIMPLE = 5;
        private static final int OPEN_MOST = 5;
        private static final int DIGITS_MOST = 4;
        private static final int END = -1;

        private final int[] tape = new int[TAPE_MOST];
        private final int[] words = new int[TAPE_MOST];
        private String names = "";
        private int bytes;
        private int size;
        private int place;
        private boolean faulty;

        /** The TEXT of a USE; null if there is a FAULT, which is at place then. */
        Text read(Desk desk, int use) {
            System.arraycopy(desk.tape, 0, tape, 0, TAPE_MOST);
            bytes = desk.bytes;
            names = use == GRINDS ? "bhm" : "tpk";
            size = 0;
            place = 0;
            faulty = false;
            readLevel(0, 0);
            if (faulty || place < bytes) {
                return null;
            }
            return new Text(Arrays.copyOf(words, size));
        }

        /** Levels 0 to 4 are T, A, B, S and P, each made of parts of the next; SIMPLE is Q. */
        private void readLevel(int level, int open) {
            if (level >= SIMPLE) {
                readSimple(open);
                return;
            }
            readLevel(level + 1, open);
            int most = level == COMPARED ? 1 : TAPE_MOST;
            for (int i = 0; i < most && !faulty && isIn(signsOf(level), peek()); i++) {
                int sign = peek();
                place++;
                readLevel(level + 1, open);
                write(Text.SIGN + sign);
            }
        }

        private void readSimple(int open) {
            int b = peek();
            if (isDigit(b)) {
                readNumber();
            } else if (isIn(names, b)) {
                write(Text.NAME + names.indexOf((char) b));
                place++;
            } else if (b == '!' && open < OPEN_MOST) {
                place++;
                readSimple(open + 1);
                write(Text.SIGN + '!');
            } else if (b == '(' && open < OPEN_MOST) {
                place++;
                readLevel(0, open + 1);
                close();
            } else {
                faulty = true;
            }
        }

        private void readNumber() {
            int number = 0;
            for (int i = 0; i < DIGITS_MOST && isDigit(peek()); i++) {
                number = number * 10 + peek() - '0';
                place++;
            }
            write(number);
        }

        private void close() {
            if (!faulty && peek() == ')') {
                place++;
            } else {
                faulty = true;
            }
        }

        private void write(int word) {
            if (!faulty && size < words.length) {
                words[size] = word;
                size++;
            }
        }

        private int peek() {
            return within(place, 0, bytes - 1) ? tape[place] : END;
        }

        private static boolean isDigit(int b) {
            return within(b, '0', '9');
        }

        private static boolean isIn(String signs, int b) {
            return b != END && signs.indexOf((char) b) >= 0;
        }

        private static String signsOf(int level) {
            switch (level) {
                case 0:
                    return "|";
                case 1:
                    return "&";
                case COMPARED:
                    return "<=>";
                case 3:
                    return "+-";
                default:
                    return "*/%";
            }
        }
    }

    /** The fewest coins by which each CELL can be reached, HOUR by HOUR. */
    private static final class Voyage {
        static final int FAR = 1000000;
        private static final int SAIL_KNOTS = 6;
        private static final int SAIL_BILLED = 3;
        private static final int OAR_COINS = 2;

        private final int[] coins = new int[CELLS];
        private final int[] later = new int[CELLS];

        /** FAR, if it can't be reached. */
        int fewest(Sea sea, int from, int to, int n) {
            if (!within(from, 0, CELLS - 1) || !within(to, 0, CELLS - 1)) {
                return FAR;
            }
            Arrays.fill(coins, FAR);
            coins[from] = 0;
            for (int h = 0; h < n; h++) {
                System.arraycopy(coins, 0, later, 0, CELLS);
                for (int cell = 0; cell < CELLS; cell++) {
                    if (coins[cell] < FAR) {
                        leave(cell, sea.priceIn(cell), sea.windLater(h));
                    }
                }
                System.arraycopy(later, 0, coins, 0, CELLS);
            }
            return coins[to];
        }

        private void leave(int cell, int price, int kw) {
            for (int way = NORTH; way <= WEST; way++) {
                int next = cellBeside(cell, way);
                boolean sails = kw / 10 >= SAIL_KNOTS && way != kw % 10;
                int cost = sails ? Math.min(OAR_COINS, SAIL_BILLED * price) : OAR_COINS;
                if (within(next, 0, CELLS - 1)) {
                    later[next] = Math.min(later[next], coins[cell] + cost);
                }
            }
        }
    }

    /** VOICES: which BODY answers is looked for from a KIND upward, as methods override one another. */
    private static final class Voices {
        static final int SAILS = 0;
        static final int TAKES = 1;
        static final int OWES = 2;
        static final int PARTS = 3;
        private static final int VOICES = 4;
        private static final int TRACE_MOST = 30;
        private static final int DEPTH_MOST = 40;
        /** BODIES by KINDS, and by voices of each; 0 where a KIND has none of its own. */
        private static final int[] BODIES = {
            10, 11, 12, 13,
            20, 0, 0, 21,
            0, 30, 0, 0,
            40, 0, 41, 0,
            0, 0, 50, 0,
            0, 60, 0, 0,
            70, 71, 0, 0,
        };

        private final int[] trace = new int[TRACE_MOST];
        private int bodies;
        private boolean parted;
        private int kind;
        private int m;
        private int k;

        int speak(Boat boat, int number, int voice, int x) {
            bodies = 0;
            parted = false;
            kind = boat.kind;
            m = boat.m;
            k = number;
            return say(kind, voice, x, 0);
        }

        /** The BODY of a voice from a KIND on upward; depth stands far above what BODIES can need. */
        private int say(int from, int voice, int x, int depth) {
            int owner = ownerOf(from, voice);
            if (owner < 0 || depth > DEPTH_MOST) {
                return 0;
            }
            int number = BODIES[owner * VOICES + voice];
            begin(number);
            int above = KIND_ABOVE[owner];
            int d = depth + 1;
            switch (number) {
                case 10:
                    return x + k;
                case 11:
                    return say(kind, SAILS, x, d) * 2;
                case 12:
                    return say(kind, TAKES, x, d) - m;
                case 13:
                    return part(x);
                case 20:
                    return say(above, SAILS, x, d) - 3;
                case 21:
                    return partAndTake(above, x, d);
                case 30:
                    return 0 - say(above, TAKES, x, d);
                case 40:
                    return say(above, SAILS, x, d) * 3;
                case 41:
                    return say(above, OWES, x, d) ^ k;
                case 50:
                    return say(above, OWES, x / 2, d);
                case 60:
                    return say(above, TAKES, x + 1, d);
                case 70:
                    return 5;
                default:
                    return say(above, TAKES, x, d) + m;
            }
        }

        private int part(int x) {
            int by = m - k;
            if (by == 0) {
                parted = true;
                return 0;
            }
            return x / by;
        }

        private int partAndTake(int above, int x, int depth) {
            int left = say(above, PARTS, x, depth);
            return parted ? 0 : left + say(kind, TAKES, 1, depth);
        }

        /** The KIND, from one on upward, that has a BODY for a voice; -1 if none has. */
        private static int ownerOf(int from, int voice) {
            int owner = from;
            for (int i = 0; i < KIND_ABOVE.length && within(owner, 0, MILL); i++) {
                if (within(voice, 0, VOICES - 1) && BODIES[owner * VOICES + voice] != 0) {
                    return owner;
                }
                owner = KIND_ABOVE[owner];
            }
            return -1;
        }

        private void begin(int number) {
            if (bodies < TRACE_MOST) {
                trace[bodies] = number;
                bodies++;
            }
        }
    }

    /** A row of numbers of so many bits; its room is made once. */
    private static final class Sheet {
        static final int MISSING = 0;

        private final int[] numbers = new int[NUMBERS_MOST];
        private int bits = MISSING;
        private int size;

        static boolean mayHave(int bits) {
            return bits == MISSING || bits == 8 || bits == 16 || bits == 32;
        }

        boolean isMissing() {
            return bits == MISSING;
        }

        void begin(int newBits, int n) {
            Arrays.fill(numbers, 0);
            bits = newBits;
            size = held(n, 0, NUMBERS_MOST);
        }

        void write(int i, int v) {
            if (within(i, 0, size - 1)) {
                numbers[i] = bits == 8 ? (byte) v : bits == 16 ? (short) v : v;
            }
        }

        /** Whether n numbers stand here from number i on; none do even if n is 0, beyond the end. */
        boolean holds(int i, int n) {
            return i >= 0 && within(n, 0, size) && i <= size - n;
        }
    }
}
