import java.util.Arrays;
import java.util.NoSuchElementException;

/** A town whose told streets must all be gone; ../shared/DOC.md says what each call answers. */
public final class EveryStreet {
    public static final int NONE = -1;

    private static final int IMPOSSIBLE = -2;
    private static final int MISSING = -3;
    private static final int TOO_MANY = -100;

    private static final int CORNERS = 12;
    private static final int CORNER_SETS = 4096;
    private static final int STREETS = 18;
    private static final int PASSES = 36;
    private static final int SERVICES = 10;
    private static final int SERVICE_SETS = 1024;
    /** Codes of a service and a direction: 2 * service, and 1 more if back. */
    private static final int CODES = 20;

    private static final int EITHER = 0;
    private static final int AS_TOLD = 1;
    private static final int BACKWARD = 2;

    private static final int SIGNS = 100;
    private static final int TOWN_SIGNS = 60;
    private static final int HAND = 60;
    private static final int CUTS = 12;
    private static final int KEPT = 3;
    private static final int CARTS = 4;
    private static final int ROW = 120;
    private static final int MOST_MINUTES = 99;

    private static final int HOURS = 24;
    private static final int HOUR = 60;
    private static final int LAST_MINUTE = 1439;
    private static final int DAY = 1440;
    private static final int PERCENT = 100;
    private static final int MOST_BUSY = 400;

    /** Above all minutes that a walk can have, and far enough below the int's end to be added. */
    private static final int NEVER = 1000000;

    private final Town town;
    private final State now;
    private final State[] kept;
    private final Reader reader;
    private final Row row;
    private final Ways ways;
    private final Walks walks;
    private final Shares shares;
    private final Bounds bounds;
    private final Level levels;
    private final Orders orders;
    private final Clock clock;

    public EveryStreet() {
        town = new Town();
        now = new State();
        kept = new State[KEPT];
        for (int i = 0; i < KEPT; i++) {
            kept[i] = new State();
        }
        reader = new Reader();
        row = new Row();
        ways = new Ways(town, now);
        int[] table = new int[SERVICE_SETS * CODES];
        walks = new Walks(town, ways, table);
        shares = new Shares(town);
        bounds = new Bounds(town, now);
        levels = new Level(town, ways);
        orders = new Orders(town, now, ways);
        clock = new Clock(town, now, ways, table);
    }

    private static boolean isCorner(int corner) {
        return corner >= 0 && corner < CORNERS;
    }

    private static boolean isMinute(int minute) {
        return minute >= 0 && minute <= LAST_MINUTE;
    }

    private static boolean has(int bits, int i) {
        return (bits >> i & 1) == 1;
    }

    private static boolean isOdd(int bits) {
        return (Integer.bitCount(bits) & 1) == 1;
    }

    // ---- the town

    public int sign(int v) {
        return reader.take(v);
    }

    public boolean end(int n) {
        return reader.cutTo(n);
    }

    public int town() {
        int items = reader.read(town);
        reader.cutTo(0);
        if (items <= 0) {
            return items;
        }
        if (!reader.fits(town)) {
            return TOO_MANY;
        }
        reader.tell(town);
        now.forgetWork();
        for (int i = 0; i < KEPT; i++) {
            kept[i].held = false;
        }
        ways.stale = true;
        return items;
    }

    public int back(int v) {
        if (v < 0 || v > MOST_MINUTES) {
            return NONE;
        }
        int before = now.backMinutes;
        now.backMinutes = v;
        ways.stale = true;
        return before;
    }

    public int street(int street, int what) {
        if (!town.isStreet(street)) {
            return NONE;
        }
        switch (what) {
            case 0:
                return town.first[street];
            case 1:
                return town.second[street];
            case 2:
                return town.forth[street];
            case 3:
                return town.rear[street];
            case 4:
                return town.must[street];
            case 5:
                return town.load[street];
            case 6:
                return has(now.shutBits, street) ? 1 : 0;
            default:
                return NONE;
        }
    }

    public int between(int a, int b) {
        return town.joining(a, b);
    }

    public int turn(int a, int b, int c) {
        if (!isCorner(a) || !isCorner(b) || !isCorner(c) || a == b || b == c) {
            return NONE;
        }
        return town.turnMinutes(a, b, c, now.backMinutes);
    }

    public int service(int service, int what) {
        if (!town.isService(service)) {
            return NONE;
        }
        switch (what) {
            case 0:
                return town.streetOf[service];
            case 1:
                return town.wayOf[service];
            case 2:
                return town.load[town.streetOf[service]];
            case 3:
                return town.aheadOf[service];
            default:
                return NONE;
        }
    }

    public boolean ahead(int service, int other) {
        if (!town.isService(service) || !town.isService(other)) {
            return false;
        }
        if (has(town.allAheadOf(service) | 1 << service, other)) {
            return false;
        }
        town.aheadOf[other] |= 1 << service;
        return true;
    }

    public boolean shut(int street, boolean is) {
        if (!town.isStreet(street)) {
            return false;
        }
        int bit = 1 << street;
        now.shutBits = is ? now.shutBits | bit : now.shutBits & ~bit;
        ways.stale = true;
        return true;
    }

    // ---- lines, pairs, bounds

    public int line() {
        return bounds.tellLine(row);
    }

    public int far(int a, int b) {
        if (!isCorner(a) || !isCorner(b)) {
            return NONE;
        }
        int minutes = bounds.farBetween(a, b);
        return minutes >= NEVER ? NONE : minutes;
    }

    public int pair() {
        int minutes = bounds.leastPairs();
        if (minutes >= NEVER) {
            return IMPOSSIBLE;
        }
        bounds.tellPairs(row);
        return minutes;
    }

    public int floor() {
        int minutes = bounds.leastPairs();
        return minutes >= NEVER ? IMPOSSIBLE : minutes + bounds.lesserOfServices();
    }

    public int cut(int bits) {
        if (bits < 0 || bits >= CORNER_SETS) {
            return NONE;
        }
        if (!isOdd(bits & town.odd)) {
            return 0;
        }
        int minutes = bounds.leastLeaving(bits);
        return minutes >= NEVER ? IMPOSSIBLE : minutes;
    }

    public int prove(int bits, int number) {
        if (bits < 0 || bits >= CORNER_SETS || number < 1 || number > MOST_MINUTES || now.cuts >= CUTS) {
            return NONE;
        }
        now.cutBits[now.cuts] = bits;
        now.cutNumbers[now.cuts] = number;
        now.cuts++;
        return now.cuts;
    }

    public int worth() {
        int street = bounds.overborne();
        return street == NONE ? bounds.proven() : IMPOSSIBLE - street;
    }

    public int drop() {
        int before = now.cuts;
        now.cuts = 0;
        return before;
    }

    public int level() {
        return levels.solve(row);
    }

    // ---- walks

    public int best(int from, int to) {
        if (!isCorner(from) || !isCorner(to)) {
            return NONE;
        }
        walks.aimAt(town.allServices(), to);
        return walks.tell(from, NONE, 0, row);
    }

    public int some(int from, int bits) {
        if (!isCorner(from) || (bits & ~town.allServices()) != 0) {
            return NONE;
        }
        walks.aimAt(bits, from);
        return walks.tell(from, NONE, 0, row);
    }

    public int bars(int from) {
        if (!isCorner(from)) {
            return NONE;
        }
        if (ways.hasRound(from, NONE)) {
            return IMPOSSIBLE;
        }
        for (int corner = 0; corner < CORNERS; corner++) {
            if (ways.hasRound(from, corner)) {
                return corner;
            }
        }
        return NONE;
    }

    public int give(int from) {
        if (!isCorner(from)) {
            return NONE;
        }
        walks.tourAll(from);
        int given = walks.fewestGiven();
        row.clear();
        row.put(given);
        return Integer.bitCount(given);
    }

    // ---- by hand

    public int go(int corner) {
        if (!isCorner(corner) || now.handSize >= HAND) {
            return NONE;
        }
        if (now.handSize > 0) {
            int pass = town.passBetween(now.handEnd(), corner);
            if (pass == NONE || !ways.goes(pass)) {
                return NONE;
            }
            now.handPasses[now.handSize - 1] = pass;
        }
        now.hand[now.handSize] = corner;
        now.handSize++;
        return now.handSize;
    }

    public boolean undo(int n) {
        if (n < 0 || n > now.handSize) {
            return false;
        }
        now.handSize = n;
        return true;
    }

    public int judge() {
        if (now.handSize == 0) {
            return NONE;
        }
        int barred = 0;
        int minutes = 0;
        for (int i = 0; i + 1 < now.handSize; i++) {
            int turn = ways.handTurn(i);
            if (turn == NONE && barred == 0) {
                barred = IMPOSSIBLE - i;
            }
            minutes += Math.max(turn, 0) + town.length(now.handPasses[i]);
        }
        row.clear();
        row.put(minutes);
        row.put(doneByHand());
        return barred;
    }

    public int rest() {
        if (now.handSize == 0) {
            return NONE;
        }
        walks.aimAt(town.allServices(), now.hand[0]);
        int last = now.handSize > 1 ? now.handPasses[now.handSize - 2] : NONE;
        return walks.tell(now.handEnd(), last, doneByHand(), row);
    }

    private int doneByHand() {
        int all = town.allServices();
        int done = 0;
        for (int i = 0; i + 1 < now.handSize; i++) {
            done = town.doneWith(now.handPasses[i], done, all);
        }
        return done;
    }

    public int timed(int minute) {
        if (!isMinute(minute) || now.handSize == 0) {
            return NONE;
        }
        return clock.timeHand(minute, row);
    }

    public int busy(int kind, int n, int f, int step) {
        if (kind < 0 || kind > 3 || n > HOURS) {
            return NONE;
        }
        if (kind == 3) {
            Arrays.fill(now.busyOf, PERCENT);
            return MISSING;
        }
        if (n < 0) {
            return IMPOSSIBLE;
        }
        int sum = 0;
        for (int i = 0; i < HOURS; i++) {
            now.busyOf[i] = i < n ? Clock.busyEntry(kind, f + step * i) : PERCENT;
            sum += now.busyOf[i];
        }
        return sum;
    }

    public boolean open(int street, int from, int to) {
        if (!town.isStreet(street) || !isMinute(from) || !isMinute(to) || to < from) {
            return false;
        }
        now.openFrom[street] = from;
        now.openTo[street] = to;
        return true;
    }

    public int soonest(int from, int minute) {
        if (!isCorner(from) || !isMinute(minute)) {
            return NONE;
        }
        int end = clock.soonestRound(from, minute);
        return end >= NEVER ? IMPOSSIBLE : end;
    }

    // ---- an order

    public int add(int service, boolean back) {
        if (!town.isService(service) || orders.holds(service)) {
            return NONE;
        }
        int code = 2 * service + (back ? 1 : 0);
        if (!town.canDo(code)) {
            return NONE;
        }
        now.order[now.orderSize] = code;
        now.orderSize++;
        return now.orderSize;
    }

    public int order() {
        if (now.orderSize == 0) {
            return NONE;
        }
        int minutes = orders.minutesNow();
        return minutes >= NEVER ? IMPOSSIBLE : minutes;
    }

    public int build() {
        return town.services == 0 ? NONE : orders.buildAnew();
    }

    public int better() {
        return now.orderSize == 0 ? NONE : orders.betterAll();
    }

    public int pass(int i, int what) {
        if (i < 0 || i >= now.orderSize) {
            return NONE;
        }
        switch (what) {
            case 0:
                return now.order[i] >> 1;
            case 1:
                return now.order[i] & 1;
            default:
                return NONE;
        }
    }

    // ---- carts, parts

    public int carts(int from, int k, int cap, int what) {
        if (!isCorner(from) || k < 1 || k > CARTS || cap < 1 || cap > MOST_MINUTES) {
            return NONE;
        }
        if (what != 0 && what != 1) {
            return NONE;
        }
        walks.tourAll(from);
        shares.costByTours(walks.tours, cap);
        return shares.share(k, what == 1, row);
    }

    public int parts(int k) {
        if (k < 1 || k > CARTS) {
            return NONE;
        }
        shares.costByStreets();
        return shares.share(k, true, row);
    }

    // ---- cards

    public boolean straight(int a, int b, int c) {
        if (town.joining(a, b) == NONE) {
            return false;
        }
        if (c != NONE && (c == a || town.joining(b, c) == NONE)) {
            return false;
        }
        now.straightOn[a * CORNERS + b] = c;
        return true;
    }

    public int card() {
        if (now.handSize == 0) {
            return NONE;
        }
        int stray = now.strayPlace();
        if (stray != NONE) {
            return IMPOSSIBLE - stray;
        }
        row.clear();
        int words = 0;
        for (int i = 1; i + 1 < now.handSize; i++) {
            if (now.isNewWord(i)) {
                row.put(now.hand[i - 1]);
                row.put(now.hand[i]);
                row.put(now.hand[i + 1]);
                words++;
            }
        }
        return words;
    }

    public int mislead(int i) {
        if (i < 0 || now.strayPlace() != NONE) {
            return NONE;
        }
        int words = 0;
        for (int place = 1; place + 1 < now.handSize; place++) {
            if (now.isNewWord(place)) {
                if (words == i) {
                    return place;
                }
                words++;
            }
        }
        return NONE;
    }

    // ---- kept

    public boolean keep(int i) {
        if (i < 0 || i >= KEPT) {
            return false;
        }
        kept[i].take(now);
        kept[i].held = true;
        return true;
    }

    public boolean again(int i) {
        if (i < 0 || i >= KEPT || !kept[i].held) {
            return false;
        }
        now.take(kept[i]);
        ways.stale = true;
        return true;
    }

    public int count(int what) {
        switch (what) {
            case 0:
                return town.streets;
            case 1:
                return town.services;
            case 2:
                return now.backMinutes;
            case 3:
                return now.handSize;
            case 4:
                return now.orderSize;
            case 5:
                return town.turnsTold;
            case 6:
                return row.size;
            case 7:
                return reader.size;
            case 8:
                return town.odd;
            case 9:
                return Integer.bitCount(now.shutBits);
            case 10:
                return now.cuts;
            default:
                return NONE;
        }
    }

    public int row(int i) throws NoSuchElementException {
        if (i < 0 || i >= row.size) {
            throw new NoSuchElementException();
        }
        return row.numbers[i];
    }

    /** The numbers told last. */
    private static final class Row {
        final int[] numbers = new int[ROW];
        int size;

        void clear() {
            size = 0;
        }

        /** What comes behind the last place is not told. */
        void put(int number) {
            if (size < ROW) {
                numbers[size] = number;
                size++;
            }
        }
    }

    /** Streets, turns and services as told. A pass is 2 * street, and 1 more if back. */
    private static final class Town {
        static final int UNTOLD = -2;
        static final int BARRED = -1;

        int streets;
        int services;
        int turnsTold;
        int odd;
        final int[] first = new int[STREETS];
        final int[] second = new int[STREETS];
        final int[] forth = new int[STREETS];
        final int[] rear = new int[STREETS];
        final int[] must = new int[STREETS];
        final int[] load = new int[STREETS];
        final int[] joint = new int[CORNERS * CORNERS];
        final int[] turns = new int[CORNERS * CORNERS * CORNERS];
        final int[] streetOf = new int[SERVICES];
        final int[] wayOf = new int[SERVICES];
        final int[] aheadOf = new int[SERVICES];
        final int[] doneBy = new int[PASSES];

        Town() {
            Arrays.fill(joint, NONE);
            Arrays.fill(turns, UNTOLD);
            Arrays.fill(doneBy, NONE);
        }

        boolean isStreet(int street) {
            return street >= 0 && street < streets;
        }

        boolean isService(int service) {
            return service >= 0 && service < services;
        }

        int allServices() {
            return (1 << services) - 1;
        }

        int joining(int a, int b) {
            return isCorner(a) && isCorner(b) ? joint[a * CORNERS + b] : NONE;
        }

        int passBetween(int a, int b) {
            int street = joining(a, b);
            if (street == NONE) {
                return NONE;
            }
            int pass = first[street] == a ? 2 * street : 2 * street + 1;
            return length(pass) == NONE ? NONE : pass;
        }

        int origin(int pass) {
            return (pass & 1) == 0 ? first[pass >> 1] : second[pass >> 1];
        }

        int goal(int pass) {
            return (pass & 1) == 0 ? second[pass >> 1] : first[pass >> 1];
        }

        /** Minutes of a pass; NONE against one way. */
        int length(int pass) {
            return (pass & 1) == 0 ? forth[pass >> 1] : rear[pass >> 1];
        }

        int lesser(int street) {
            return rear[street] == NONE ? forth[street] : Math.min(forth[street], rear[street]);
        }

        /** Of three corners whose neighbours are unlike; NONE if barred. */
        int turnMinutes(int a, int b, int c, int backMinutes) {
            int told = turns[(a * CORNERS + b) * CORNERS + c];
            if (told == UNTOLD) {
                return a == c ? backMinutes : 0;
            }
            return told == BARRED ? NONE : told;
        }

        int passOf(int code) {
            return 2 * streetOf[code >> 1] + (code & 1);
        }

        /** Whether the code's service is done by a pass in the code's direction, and there is one. */
        boolean canDo(int code) {
            int pass = passOf(code);
            return doneBy[pass] == code >> 1 && length(pass) != NONE;
        }

        /** What is done of the aim when a pass comes behind what was done. */
        int doneWith(int pass, int done, int aim) {
            int service = doneBy[pass];
            if (service == NONE || !has(aim, service) || (aheadOf[service] & aim & ~done) != 0) {
                return done;
            }
            return done | 1 << service;
        }

        /** Those ahead of a service, also by others. */
        int allAheadOf(int service) {
            int bits = aheadOf[service];
            for (int round = 0; round < SERVICES; round++) {
                for (int i = 0; i < services; i++) {
                    if (has(bits, i)) {
                        bits |= aheadOf[i];
                    }
                }
            }
            return bits;
        }

        /** The minutes back are NONE if one way. */
        void putStreet(int a, int b, int minutes, int minutesBack, int kind, int weight) {
            if (streets >= STREETS) {
                return;
            }
            int street = streets;
            streets++;
            first[street] = a;
            second[street] = b;
            forth[street] = minutes;
            rear[street] = minutesBack;
            must[street] = kind;
            load[street] = weight;
            joint[a * CORNERS + b] = street;
            joint[b * CORNERS + a] = street;
            if (kind == 1) {
                putService(street, EITHER);
            } else if (kind == 2) {
                putService(street, AS_TOLD);
                putService(street, BACKWARD);
            }
        }

        void putService(int street, int way) {
            if (services >= SERVICES) {
                return;
            }
            int service = services;
            services++;
            streetOf[service] = street;
            wayOf[service] = way;
            if (way != BACKWARD) {
                doneBy[2 * street] = service;
            }
            if (way != AS_TOLD) {
                doneBy[2 * street + 1] = service;
            }
            odd ^= 1 << first[street] ^ 1 << second[street];
        }

        void putTurn(int a, int b, int c, int minutes) {
            int place = (a * CORNERS + b) * CORNERS + c;
            if (turns[place] == UNTOLD) {
                turnsTold++;
            }
            turns[place] = minutes;
        }
    }

    /** What can be kept under a number. */
    private static final class State {
        boolean held;
        int handSize;
        int orderSize;
        int cuts;
        int shutBits;
        int backMinutes;
        final int[] hand = new int[HAND];
        /** Of each corner but the last the pass to the next one. */
        final int[] handPasses = new int[HAND];
        final int[] order = new int[SERVICES];
        final int[] cutBits = new int[CUTS];
        final int[] cutNumbers = new int[CUTS];
        final int[] busyOf = new int[HOURS];
        final int[] openFrom = new int[STREETS];
        final int[] openTo = new int[STREETS];
        final int[] straightOn = new int[CORNERS * CORNERS];

        State() {
            Arrays.fill(busyOf, PERCENT);
            Arrays.fill(openTo, LAST_MINUTE);
            Arrays.fill(straightOn, NONE);
        }

        void take(State other) {
            handSize = other.handSize;
            orderSize = other.orderSize;
            cuts = other.cuts;
            shutBits = other.shutBits;
            backMinutes = other.backMinutes;
            System.arraycopy(other.hand, 0, hand, 0, HAND);
            System.arraycopy(other.handPasses, 0, handPasses, 0, HAND);
            System.arraycopy(other.order, 0, order, 0, SERVICES);
            System.arraycopy(other.cutBits, 0, cutBits, 0, CUTS);
            System.arraycopy(other.cutNumbers, 0, cutNumbers, 0, CUTS);
            System.arraycopy(other.busyOf, 0, busyOf, 0, HOURS);
            System.arraycopy(other.openFrom, 0, openFrom, 0, STREETS);
            System.arraycopy(other.openTo, 0, openTo, 0, STREETS);
            System.arraycopy(other.straightOn, 0, straightOn, 0, CORNERS * CORNERS);
        }

        void forgetWork() {
            handSize = 0;
            orderSize = 0;
            cuts = 0;
        }

        /** The hand's last corner; asked only when it has one. */
        int handEnd() {
            return handSize > 0 ? hand[handSize - 1] : 0;
        }

        /** The place, ahead of this one, to which the hand came first by the same pass; NONE if none. */
        int cameBefore(int place) {
            for (int i = 1; i < place; i++) {
                if (hand[i - 1] == hand[place - 1] && hand[i] == hand[place]) {
                    return i;
                }
            }
            return NONE;
        }

        /** The first place where the hand goes on otherwise than before; NONE if none. */
        int strayPlace() {
            for (int place = 1; place + 1 < handSize; place++) {
                int before = cameBefore(place);
                if (before != NONE && hand[before + 1] != hand[place + 1]) {
                    return place;
                }
            }
            return NONE;
        }

        /** Whether a word is wanted for the turn at a place, and for none ahead of it the same. */
        boolean isNewWord(int place) {
            int straight = straightOn[hand[place - 1] * CORNERS + hand[place]];
            return straight != hand[place + 1] && cameBefore(place) == NONE;
        }
    }

    /** The text, and what its items tell: drafts, until all of it is known to stand. */
    private static final class Reader {
        static final int STREET = 0;
        static final int TURN = 1;
        /** An item has four signs at least, and a ; ahead of the next one. */
        static final int ITEMS = 15;
        static final int FIELDS = 7;
        static final int END = -1;
        static final int FAULT = -1;

        final int[] signs = new int[SIGNS];
        int size;
        final int[] drafts = new int[ITEMS * FIELDS];
        int items;
        int at;
        int limit;

        int take(int v) {
            if (size + 4 > SIGNS) {
                return NONE;
            }
            for (int shift = 24; shift >= 0; shift -= 8) {
                signs[size] = v >> shift & 255;
                size++;
            }
            return size;
        }

        boolean cutTo(int n) {
            if (n < 0 || n > size) {
                return false;
            }
            size = n;
            return true;
        }

        /** How many items, or -1 - p for the sign at p that can't stand there. */
        int read(Town town) {
            at = 0;
            items = 0;
            limit = Math.min(size, TOWN_SIGNS);
            boolean more = true;
            while (more && items < ITEMS) {
                if (!readItem(town)) {
                    return -1 - at;
                }
                items++;
                more = skip(';');
            }
            return at < size ? -1 - at : items;
        }

        int look() {
            return at < limit ? signs[at] : END;
        }

        boolean skip(int sign) {
            if (look() != sign) {
                return false;
            }
            at++;
            return true;
        }

        boolean readItem(Town town) {
            if (skip('t')) {
                return readTurn(true);
            }
            if (skip('x')) {
                return readTurn(false);
            }
            return readStreet(town);
        }

        boolean readTurn(boolean costs) {
            int a = readCorner(FAULT);
            int b = a == FAULT ? FAULT : readCorner(a);
            int c = b == FAULT ? FAULT : readCorner(b);
            if (c == FAULT) {
                return false;
            }
            int minutes = Town.BARRED;
            if (costs) {
                if (!skip(':')) {
                    return false;
                }
                minutes = readNumber(0);
                if (minutes == FAULT) {
                    return false;
                }
            }
            draft(TURN, a, b, c, minutes);
            return true;
        }

        boolean readStreet(Town town) {
            int a = readCorner(FAULT);
            if (a == FAULT) {
                return false;
            }
            boolean oneWay = skip('>');
            if (!oneWay && !skip('-')) {
                return false;
            }
            int b = readSecond(town, a);
            if (b == FAULT || !skip(':')) {
                return false;
            }
            int forth = readNumber(1);
            if (forth == FAULT) {
                return false;
            }
            int rear = oneWay ? NONE : forth;
            if (!oneWay && skip('/')) {
                rear = readNumber(1);
                if (rear == FAULT) {
                    return false;
                }
            }
            draft(STREET, a, b, forth, rear);
            return readService(oneWay);
        }

        /** What must be gone, and its load, behind the street drafted last. */
        boolean readService(boolean oneWay) {
            int kind = skip('!') ? 1 : !oneWay && skip('=') ? 2 : 0;
            int load = kind == 0 ? 0 : 1;
            if (kind != 0 && skip('$')) {
                int digit = look() - '0';
                if (digit < 1 || digit > 9) {
                    return false;
                }
                load = digit;
                at++;
            }
            drafts[items * FIELDS + 5] = kind;
            drafts[items * FIELDS + 6] = load;
            return true;
        }

        /** A corner that is not this one. */
        int readCorner(int unlike) {
            int corner = look() - 'a';
            if (!isCorner(corner) || corner == unlike) {
                return FAULT;
            }
            at++;
            return corner;
        }

        /** A street's second corner: no street joins it with the first yet. */
        int readSecond(Town town, int a) {
            int b = look() - 'a';
            if (!isCorner(b) || town.joining(a, b) != NONE) {
                return FAULT;
            }
            for (int i = 0; i < items; i++) {
                int base = i * FIELDS;
                boolean sameEnds = drafts[base + 1] == a && drafts[base + 2] == b
                        || drafts[base + 1] == b && drafts[base + 2] == a;
                if (drafts[base] == STREET && sameEnds) {
                    return FAULT;
                }
            }
            return readCorner(a);
        }

        /** One or two digits, the first of which is at least the one told. */
        int readNumber(int least) {
            int number = look() - '0';
            if (number < least || number > 9) {
                return FAULT;
            }
            at++;
            int digit = look() - '0';
            if (digit < 0 || digit > 9) {
                return number;
            }
            at++;
            return 10 * number + digit;
        }

        void draft(int kind, int a, int b, int third, int fourth) {
            int base = items * FIELDS;
            drafts[base] = kind;
            drafts[base + 1] = a;
            drafts[base + 2] = b;
            drafts[base + 3] = third;
            drafts[base + 4] = fourth;
        }

        boolean fits(Town town) {
            int streets = town.streets;
            int services = town.services;
            for (int i = 0; i < items; i++) {
                if (drafts[i * FIELDS] == STREET) {
                    streets++;
                    services += drafts[i * FIELDS + 5];
                }
            }
            return streets <= STREETS && services <= SERVICES;
        }

        void tell(Town town) {
            for (int i = 0; i < items; i++) {
                int base = i * FIELDS;
                int a = drafts[base + 1];
                int b = drafts[base + 2];
                int third = drafts[base + 3];
                int fourth = drafts[base + 4];
                if (drafts[base] == STREET) {
                    town.putStreet(a, b, third, fourth, drafts[base + 5], drafts[base + 6]);
                } else {
                    town.putTurn(a, b, third, fourth);
                }
            }
        }
    }

    /** Lawful ways from pass to pass. */
    private static final class Ways {
        final Town town;
        final State now;
        /** Least minutes behind one pass up to the end of another, by one step at least. */
        final int[] least = new int[PASSES * PASSES];
        /** Of a pass those that can come next, at most one to each corner. */
        final int[] nexts = new int[PASSES * CORNERS];
        final int[] nextCounts = new int[PASSES];
        boolean stale = true;
        /** Of a pass, those (bits) from which it can be come to. */
        final long[] sources = new long[PASSES];
        /** Of services done, the passes (bits) by which the last of them can have been. */
        final long[] lasts = new long[SERVICE_SETS];

        Ways(Town town, State now) {
            this.town = town;
            this.now = now;
        }

        boolean goes(int pass) {
            return town.length(pass) != NONE && !has(now.shutBits, pass >> 1);
        }

        /** The pass that does a code's service in its direction; NONE if none goes. */
        int doer(int code) {
            int pass = town.passOf(code);
            return town.canDo(code) && goes(pass) ? pass : NONE;
        }

        /** A turn and the pass behind it; the pass alone behind NONE. */
        int stepMinutes(int pass, int next) {
            if (!goes(next)) {
                return NEVER;
            }
            if (pass == NONE) {
                return town.length(next);
            }
            if (town.goal(pass) != town.origin(next)) {
                return NEVER;
            }
            int turn = turnBetween(pass, next);
            return turn == NONE ? NEVER : turn + town.length(next);
        }

        /** Of two passes, the second from where the first ends; NONE if barred. */
        int turnBetween(int pass, int next) {
            return town.turnMinutes(town.origin(pass), town.goal(pass), town.goal(next), now.backMinutes);
        }

        /** The turn ahead of the hand's pass i; NONE if barred. */
        int handTurn(int i) {
            return i == 0 ? 0 : turnBetween(now.handPasses[i - 1], now.handPasses[i]);
        }

        int leastMinutes(int pass, int next) {
            return least[pass * PASSES + next];
        }

        void refresh() {
            if (!stale) {
                return;
            }
            int passes = 2 * town.streets;
            for (int p = 0; p < passes; p++) {
                listNexts(p, passes);
            }
            for (int by = 0; by < passes; by++) {
                if (goes(by)) {
                    shorten(by, passes);
                }
            }
            stale = false;
        }

        void listNexts(int pass, int passes) {
            int count = 0;
            for (int next = 0; next < passes; next++) {
                int step = stepMinutes(pass, next);
                least[pass * PASSES + next] = step;
                if (step < NEVER && count < CORNERS) {
                    nexts[pass * CORNERS + count] = next;
                    count++;
                }
            }
            nextCounts[pass] = count;
        }

        void shorten(int by, int passes) {
            for (int p = 0; p < passes; p++) {
                int half = least[p * PASSES + by];
                if (half < NEVER) {
                    for (int q = 0; q < passes; q++) {
                        int whole = half + least[by * PASSES + q];
                        if (whole < least[p * PASSES + q]) {
                            least[p * PASSES + q] = whole;
                        }
                    }
                }
            }
        }

        /** Whether all services can be done from a corner back to it, no turn at one being barred. */
        boolean hasRound(int from, int freed) {
            int all = town.allServices();
            if (all == 0) {
                return true;
            }
            link(freed);
            Arrays.fill(lasts, 0, all + 1, 0L);
            long begins = 0;
            for (int pass = 0; pass < 2 * town.streets; pass++) {
                if (goes(pass) && town.origin(pass) == from) {
                    begins |= 1L << pass;
                }
            }
            for (int code = 0; code < 2 * town.services; code++) {
                int pass = doer(code);
                boolean comes = pass != NONE && ((begins & (sources[pass] | 1L << pass)) != 0);
                if (comes && town.aheadOf[code >> 1] == 0) {
                    lasts[1 << (code >> 1)] |= 1L << pass;
                }
            }
            for (int done = 1; done < all; done++) {
                if (lasts[done] != 0) {
                    spread(done);
                }
            }
            return (lasts[all] & comingTo(from)) != 0;
        }

        void link(int freed) {
            int passes = 2 * town.streets;
            for (int q = 0; q < passes; q++) {
                long bits = 0;
                for (int p = 0; p < passes; p++) {
                    if (canStep(p, q, freed)) {
                        bits |= 1L << p;
                    }
                }
                sources[q] = bits;
            }
            for (int by = 0; by < passes; by++) {
                for (int q = 0; q < passes; q++) {
                    if ((sources[q] >> by & 1) == 1) {
                        sources[q] |= sources[by];
                    }
                }
            }
        }

        boolean canStep(int pass, int next, int freed) {
            if (!goes(pass) || !goes(next) || town.goal(pass) != town.origin(next)) {
                return false;
            }
            return town.goal(pass) == freed || stepMinutes(pass, next) < NEVER;
        }

        /** One service more behind those done. */
        void spread(int done) {
            for (int code = 0; code < 2 * town.services; code++) {
                int service = code >> 1;
                int pass = doer(code);
                boolean due = !has(done, service) && (town.aheadOf[service] & ~done) == 0;
                if (pass != NONE && due && (lasts[done] & sources[pass]) != 0) {
                    lasts[done | 1 << service] |= 1L << pass;
                }
            }
        }

        /** Passes that end at a corner, or from which one can go on to it. */
        long comingTo(int corner) {
            long bits = 0;
            for (int pass = 0; pass < 2 * town.streets; pass++) {
                if (goes(pass) && town.goal(pass) == corner) {
                    bits |= sources[pass] | 1L << pass;
                }
            }
            return bits;
        }
    }

    /** The least walks by all that is done so far. */
    private static final class Walks {
        final Town town;
        final Ways ways;
        /** Of a set done and a code done last: minutes left (walks), or minutes so far (tours). */
        final int[] table;
        final int[] doers = new int[CODES];
        final int[] exits = new int[PASSES];
        /** Of each service those (bits) that it is ahead of. */
        final int[] behind = new int[SERVICES];
        /** Of each set of services the least minutes from a corner back to it. */
        final int[] tours = new int[SERVICE_SETS];
        int aim;
        int goal;
        int codes;

        Walks(Town town, Ways ways, int[] table) {
            this.town = town;
            this.ways = ways;
            this.table = table;
        }

        void prepare(int to) {
            ways.refresh();
            goal = to;
            codes = 2 * town.services;
            for (int code = 0; code < codes; code++) {
                doers[code] = ways.doer(code);
            }
            for (int pass = 0; pass < 2 * town.streets; pass++) {
                exits[pass] = leastExit(pass);
            }
        }

        int leastExit(int pass) {
            if (town.goal(pass) == goal) {
                return 0;
            }
            int least = NEVER;
            for (int last = 0; last < 2 * town.streets; last++) {
                if (town.goal(last) == goal) {
                    least = Math.min(least, ways.leastMinutes(pass, last));
                }
            }
            return least;
        }

        /** Makes ready for walks that do some services and end at a corner. */
        void aimAt(int bits, int to) {
            prepare(to);
            aim = bits;
            for (int done = bits; done > 0; done = done - 1 & bits) {
                for (int code = 0; code < codes; code++) {
                    if (has(done, code >> 1)) {
                        int pass = doers[code];
                        table[done * CODES + code] = pass == NONE ? NEVER : minutesLeft(pass, done);
                    }
                }
            }
        }

        /** Least minutes behind a pass by which the rest of the aim is done. */
        int minutesLeft(int pass, int done) {
            if (done == aim) {
                return exits[pass];
            }
            int least = NEVER;
            for (int code = 0; code < codes; code++) {
                int service = code >> 1;
                boolean due = has(aim & ~done, service) && (town.aheadOf[service] & aim & ~done) == 0;
                if (due && doers[code] != NONE) {
                    int way = ways.leastMinutes(pass, doers[code]);
                    least = Math.min(least, way + table[(done | 1 << service) * CODES + code]);
                }
            }
            return least;
        }

        /** Least minutes from a corner, come to by a pass or (NONE) begun at. */
        int minutesFrom(int corner, int last, int done) {
            if (last != NONE) {
                return minutesLeft(last, done);
            }
            if (corner == goal && done == aim) {
                return 0;
            }
            int least = NEVER;
            for (int next = 0; next < 2 * town.streets; next++) {
                if (town.origin(next) == corner) {
                    least = Math.min(least, minutesBy(NONE, next, done));
                }
            }
            return least;
        }

        int minutesBy(int last, int next, int done) {
            int step = ways.stepMinutes(last, next);
            return step >= NEVER ? NEVER : step + minutesLeft(next, town.doneWith(next, done, aim));
        }

        /** The first of the least walks goes into the row: its minutes. */
        int tell(int from, int came, int doneSoFar, Row row) {
            int minutes = minutesFrom(from, came, doneSoFar);
            if (minutes >= NEVER) {
                return IMPOSSIBLE;
            }
            row.clear();
            row.put(from);
            int corner = from;
            int last = came;
            int done = doneSoFar;
            int left = minutes;
            // each step takes a minute at least, so that the bound is never come to
            for (int steps = 0; steps < NEVER && left > 0; steps++) {
                int next = firstNext(corner, last, done, left);
                if (next == NONE) {
                    return minutes;
                }
                left -= ways.stepMinutes(last, next);
                done = town.doneWith(next, done, aim);
                corner = town.goal(next);
                last = next;
                row.put(corner);
            }
            return minutes;
        }

        /** To the least corner by which no more minutes than those left are wanted. */
        int firstNext(int corner, int last, int done, int left) {
            for (int to = 0; to < CORNERS; to++) {
                int next = town.passBetween(corner, to);
                if (next != NONE && minutesBy(last, next, done) == left) {
                    return next;
                }
            }
            return NONE;
        }

        /** Least minutes of each set of services from a corner back to it. */
        void tourAll(int from) {
            prepare(from);
            int all = town.allServices();
            Arrays.fill(table, 0, (all + 1) * CODES, NEVER);
            for (int i = 0; i < town.services; i++) {
                behind[i] = 0;
                for (int j = 0; j < town.services; j++) {
                    behind[i] |= has(town.aheadOf[j], i) ? 1 << j : 0;
                }
            }
            for (int code = 0; code < codes; code++) {
                table[(1 << (code >> 1)) * CODES + code] = leastEntry(from, doers[code]);
            }
            tours[0] = 0;
            for (int done = 1; done <= all; done++) {
                tours[done] = NEVER;
                for (int code = 0; code < codes; code++) {
                    if (table[done * CODES + code] < NEVER) {
                        tourOn(done, code);
                    }
                }
            }
        }

        int leastEntry(int from, int pass) {
            if (pass == NONE) {
                return NEVER;
            }
            if (town.origin(pass) == from) {
                return town.length(pass);
            }
            int least = NEVER;
            for (int first = 0; first < 2 * town.streets; first++) {
                if (town.origin(first) == from && ways.goes(first)) {
                    least = Math.min(least, town.length(first) + ways.leastMinutes(first, pass));
                }
            }
            return least;
        }

        /** Ends a tour behind a code done last, or does one more that is not ahead of one done. */
        void tourOn(int done, int code) {
            int minutes = table[done * CODES + code];
            int pass = doers[code];
            if (pass == NONE) {
                return;
            }
            tours[done] = Math.min(tours[done], minutes + exits[pass]);
            for (int next = 0; next < codes; next++) {
                int service = next >> 1;
                if (doers[next] != NONE && !has(done, service) && (behind[service] & done) == 0) {
                    int place = (done | 1 << service) * CODES + next;
                    int sum = minutes + ways.leastMinutes(pass, doers[next]);
                    table[place] = Math.min(table[place], sum);
                }
            }
        }

        /** The fewest services without which there is a tour, of as few the least bits. */
        int fewestGiven() {
            int all = town.allServices();
            int fewest = all;
            for (int given = all; given >= 0; given--) {
                boolean fewer = Integer.bitCount(given) <= Integer.bitCount(fewest);
                if (fewer && tours[all & ~given] < NEVER) {
                    fewest = given;
                }
            }
            return fewest;
        }
    }

    /** Services shared among carts or parts, by what each set of them costs. */
    private static final class Shares {
        final Town town;
        final int[] costs = new int[SERVICE_SETS];
        /** Of so many shares (from 1 on) and a set of services the least cost. */
        final int[] least = new int[CARTS * SERVICE_SETS];

        Shares(Town town) {
            this.town = town;
        }

        void costByTours(int[] tours, int cap) {
            for (int set = 0; set <= town.allServices(); set++) {
                int load = 0;
                for (int i = 0; i < town.services; i++) {
                    load += has(set, i) ? town.load[town.streetOf[i]] : 0;
                }
                costs[set] = load > cap ? NEVER : tours[set];
            }
        }

        void costByStreets() {
            costs[0] = NEVER;
            for (int set = 1; set <= town.allServices(); set++) {
                int sum = 0;
                for (int i = 0; i < town.services; i++) {
                    sum += has(set, i) ? town.lesser(town.streetOf[i]) : 0;
                }
                costs[set] = hasWholeStreets(set) && hangsTogether(set) ? sum : NEVER;
            }
        }

        boolean hasWholeStreets(int set) {
            for (int i = 0; i + 1 < town.services; i++) {
                if (town.streetOf[i] == town.streetOf[i + 1] && has(set, i) != has(set, i + 1)) {
                    return false;
                }
            }
            return true;
        }

        boolean hangsTogether(int set) {
            int corners = endsOf(Integer.numberOfTrailingZeros(set));
            int left = set;
            for (int round = 0; round < SERVICES; round++) {
                for (int i = 0; i < town.services; i++) {
                    if (has(left, i) && (endsOf(i) & corners) != 0) {
                        corners |= endsOf(i);
                        left &= ~(1 << i);
                    }
                }
            }
            return left == 0;
        }

        int endsOf(int service) {
            if (!town.isService(service)) {
                return 0;
            }
            int street = town.streetOf[service];
            return 1 << town.first[street] | 1 << town.second[street];
        }

        int joined(int one, int others, boolean longest) {
            return longest ? Math.max(one, others) : Math.min(NEVER, one + others);
        }

        /** The first of the cheapest shares goes into the row: what it costs. */
        int share(int k, boolean longest, Row row) {
            int all = town.allServices();
            System.arraycopy(costs, 0, least, 0, all + 1);
            for (int others = 1; others < k; others++) {
                // of the last share nothing but the whole set is asked
                for (int set = others + 1 == k ? all : 0; set <= all; set++) {
                    least[others * SERVICE_SETS + set] = leastWith(set, others, longest);
                }
            }
            int cost = least[(k - 1) * SERVICE_SETS + all];
            if (cost >= NEVER) {
                return IMPOSSIBLE;
            }
            row.clear();
            int left = all;
            int bound = cost;
            for (int others = k - 1; others > 0; others--) {
                int one = firstShare(left, others, bound, longest);
                row.put(one);
                left &= ~one;
                bound -= longest ? 0 : costs[one];
            }
            row.put(left);
            return cost;
        }

        int leastWith(int set, int others, boolean longest) {
            int base = (others - 1) * SERVICE_SETS;
            int least = joined(costs[0], this.least[base + set], longest);
            for (int one = set; one > 0; one = one - 1 & set) {
                least = Math.min(least, joined(costs[one], this.least[base + (set & ~one)], longest));
            }
            return least;
        }

        int firstShare(int set, int others, int bound, boolean longest) {
            int base = (others - 1) * SERVICE_SETS;
            for (int one = 0; one < set; one++) {
                boolean within = (one & ~set) == 0;
                if (within && joined(costs[one], least[base + (set & ~one)], longest) <= bound) {
                    return one;
                }
            }
            return set;
        }
    }

    /** The line, pairs of odd corners, cuts. */
    private static final class Bounds {
        final Town town;
        final State now;
        final int[] far = new int[CORNERS * CORNERS];
        /** Of each even set of odd corners the least sum of its pairs. */
        final int[] sums = new int[CORNER_SETS];
        /** Of each set of services gone the corners (bits) from which the others bring one home. */
        final int[] homeward = new int[SERVICE_SETS];

        Bounds(Town town, State now) {
            this.town = town;
            this.now = now;
        }

        int tellLine(Row row) {
            int all = town.allServices();
            if (all == 0) {
                return 0;
            }
            int start = leastServed();
            homeward[all] = 1 << start;
            for (int gone = all - 1; gone >= 0; gone--) {
                homeward[gone] = homewardFrom(gone);
            }
            row.clear();
            if (!has(homeward[0], start)) {
                tellOdd(row);
                return IMPOSSIBLE;
            }
            row.put(start);
            int gone = 0;
            int corner = start;
            for (int i = 0; i < town.services; i++) {
                int code = firstHomeward(corner, gone);
                if (code == NONE) {
                    return IMPOSSIBLE;
                }
                gone |= 1 << (code >> 1);
                corner = town.goal(town.passOf(code));
                row.put(corner);
            }
            return town.services;
        }

        int leastServed() {
            int least = CORNERS;
            for (int i = 0; i < town.services; i++) {
                int street = town.streetOf[i];
                least = Math.min(least, Math.min(town.first[street], town.second[street]));
            }
            return least;
        }

        boolean leadsHome(int code, int gone) {
            int service = code >> 1;
            return !has(gone, service) && town.canDo(code)
                    && has(homeward[gone | 1 << service], town.goal(town.passOf(code)));
        }

        int homewardFrom(int gone) {
            int bits = 0;
            for (int code = 0; code < 2 * town.services; code++) {
                if (leadsHome(code, gone)) {
                    bits |= 1 << town.origin(town.passOf(code));
                }
            }
            return bits;
        }

        int firstHomeward(int corner, int gone) {
            int found = NONE;
            int least = CORNERS;
            for (int code = 0; code < 2 * town.services; code++) {
                int pass = town.passOf(code);
                if (town.origin(pass) == corner && town.goal(pass) < least && leadsHome(code, gone)) {
                    found = code;
                    least = town.goal(pass);
                }
            }
            return found;
        }

        void tellOdd(Row row) {
            for (int corner = 0; corner < CORNERS; corner++) {
                if (has(town.odd, corner)) {
                    row.put(corner);
                }
            }
        }

        int farBetween(int a, int b) {
            measure();
            return far[a * CORNERS + b];
        }

        void measure() {
            Arrays.fill(far, NEVER);
            for (int corner = 0; corner < CORNERS; corner++) {
                far[corner * CORNERS + corner] = 0;
            }
            for (int street = 0; street < town.streets; street++) {
                int a = town.first[street];
                int b = town.second[street];
                far[a * CORNERS + b] = town.lesser(street);
                far[b * CORNERS + a] = town.lesser(street);
            }
            for (int by = 0; by < CORNERS; by++) {
                for (int a = 0; a < CORNERS; a++) {
                    for (int b = 0; b < CORNERS; b++) {
                        int sum = far[a * CORNERS + by] + far[by * CORNERS + b];
                        far[a * CORNERS + b] = Math.min(far[a * CORNERS + b], sum);
                    }
                }
            }
        }

        /** Of all odd corners; each set's least sum stands then. */
        int leastPairs() {
            measure();
            sums[0] = 0;
            for (int set = 1; set <= town.odd; set++) {
                if ((set & ~town.odd) == 0 && !isOdd(set)) {
                    sums[set] = NEVER;
                    sums[set] = sumWith(set, firstOther(set));
                }
            }
            return sums[town.odd];
        }

        /** The least corner of a set with another one, and the pairs of those left. */
        int sumWith(int set, int other) {
            int one = Integer.numberOfTrailingZeros(set);
            if (!isCorner(one) || !isCorner(other)) {
                return NEVER;
            }
            int left = set & ~(1 << one) & ~(1 << other);
            return Math.min(NEVER, far[one * CORNERS + other] + sums[left]);
        }

        /** The first corner to go with the least one of a set. */
        int firstOther(int set) {
            int found = NONE;
            int least = NEVER;
            for (int other = Integer.numberOfTrailingZeros(set) + 1; other < CORNERS; other++) {
                if (has(set, other) && sumWith(set, other) < least) {
                    found = other;
                    least = sumWith(set, other);
                }
            }
            return found;
        }

        void tellPairs(Row row) {
            row.clear();
            int left = town.odd;
            for (int i = 0; i < CORNERS && left != 0; i++) {
                int one = Integer.numberOfTrailingZeros(left);
                int other = firstOther(left);
                if (other == NONE) {
                    return;
                }
                row.put(one);
                row.put(other);
                left &= ~(1 << one) & ~(1 << other);
            }
        }

        int lesserOfServices() {
            int sum = 0;
            for (int i = 0; i < town.services; i++) {
                sum += town.lesser(town.streetOf[i]);
            }
            return sum;
        }

        boolean leaves(int street, int corners) {
            return has(corners, town.first[street]) != has(corners, town.second[street]);
        }

        int leastLeaving(int corners) {
            int least = NEVER;
            for (int street = 0; street < town.streets; street++) {
                if (leaves(street, corners)) {
                    least = Math.min(least, town.lesser(street));
                }
            }
            return least;
        }

        /** The first street that bears more than its lesser minutes; NONE if none. */
        int overborne() {
            for (int street = 0; street < town.streets; street++) {
                int borne = 0;
                for (int i = 0; i < now.cuts; i++) {
                    borne += leaves(street, now.cutBits[i]) ? now.cutNumbers[i] : 0;
                }
                if (borne > town.lesser(street)) {
                    return street;
                }
            }
            return NONE;
        }

        int proven() {
            int sum = 0;
            for (int i = 0; i < now.cuts; i++) {
                sum += isOdd(now.cutBits[i] & town.odd) ? now.cutNumbers[i] : 0;
            }
            return sum;
        }
    }

    /** Passes that do all services and come to each corner as often as they go from it. */
    private static final class Level {
        final Town town;
        final Ways ways;
        /** Of each depth how often each pass is gone beside those that do services. */
        final int[] extra = new int[(SERVICES + 1) * PASSES];
        final int[] reach = new int[CORNERS];
        /** The pass by which a corner is come to; PASSES more, if one is taken away for it. */
        final int[] by = new int[CORNERS];
        /** Services with one direction alone come first: they make the bound of the others high. */
        final int[] queue = new int[SERVICES];
        int backs;
        int leastBacks;
        int least;

        Level(Town town, Ways ways) {
            this.town = town;
            this.ways = ways;
        }

        int solve(Row row) {
            least = NEVER;
            leastBacks = 0;
            backs = 0;
            queueUp();
            Arrays.fill(extra, 0, PASSES, 0);
            choose(0, 0);
            if (least >= NEVER) {
                return IMPOSSIBLE;
            }
            row.clear();
            for (int i = 0; i < town.services; i++) {
                row.put(has(leastBacks, i) ? 1 : 0);
            }
            return least;
        }

        void queueUp() {
            int size = 0;
            for (int round = 0; round < 2; round++) {
                for (int i = 0; i < town.services; i++) {
                    boolean free = ways.doer(2 * i) != NONE && ways.doer(2 * i + 1) != NONE;
                    if (free == (round == 1) && size < SERVICES) {
                        queue[size] = i;
                        size++;
                    }
                }
            }
        }

        /** Tries both directions of the service in turn; the depth is at most the services' number. */
        private void choose(int depth, int minutes) {
            if (minutes >= least) {
                return;
            }
            if (depth >= town.services) {
                least = minutes;
                leastBacks = backs;
                return;
            }
            int service = queue[depth];
            for (int way = 0; way < 2; way++) {
                int pass = ways.doer(2 * service + way);
                if (pass != NONE) {
                    System.arraycopy(extra, depth * PASSES, extra, (depth + 1) * PASSES, PASSES);
                    int more = comeBack(pass, (depth + 1) * PASSES);
                    backs = way == 1 ? backs | 1 << service : backs & ~(1 << service);
                    choose(depth + 1, Math.min(NEVER, minutes + town.length(pass) + more));
                }
            }
        }

        /** The least minutes more, with which one comes from a pass's end back to its begin. */
        int comeBack(int pass, int base) {
            int start = town.goal(pass);
            int corner = town.origin(pass);
            searchFrom(start, base);
            int minutes = reach[corner];
            if (minutes >= NEVER) {
                return NEVER;
            }
            for (int i = 0; i < CORNERS && corner != start; i++) {
                int step = by[corner];
                if (step < PASSES) {
                    extra[base + step]++;
                    corner = town.origin(step);
                } else {
                    extra[base + step - PASSES]--;
                    corner = town.goal(step - PASSES);
                }
            }
            return minutes;
        }

        void searchFrom(int start, int base) {
            Arrays.fill(reach, NEVER);
            reach[start] = 0;
            boolean changed = true;
            for (int round = 0; round < CORNERS && changed; round++) {
                changed = false;
                for (int pass = 0; pass < 2 * town.streets; pass++) {
                    if (ways.goes(pass)) {
                        boolean nearer = comeNearer(pass, pass);
                        boolean taken = extra[base + pass] > 0 && comeNearer(pass, pass + PASSES);
                        changed = changed || nearer || taken;
                    }
                }
            }
        }

        boolean comeNearer(int pass, int step) {
            boolean forth = step < PASSES;
            int from = forth ? town.origin(pass) : town.goal(pass);
            int to = forth ? town.goal(pass) : town.origin(pass);
            int minutes = reach[from] + (forth ? town.length(pass) : -town.length(pass));
            if (reach[from] >= NEVER || minutes >= reach[to]) {
                return false;
            }
            reach[to] = minutes;
            by[to] = step;
            return true;
        }
    }

    /** Orders of codes: their minutes, making and bettering. */
    private static final class Orders {
        /** Each time takes a minute off at least, and no order has as many. */
        static final int TIMES = NEVER;

        final Town town;
        final State now;
        final Ways ways;
        final int[] trial = new int[SERVICES];
        final int[] finest = new int[SERVICES];
        final int[] built = new int[SERVICES];
        int least;

        Orders(Town town, State now, Ways ways) {
            this.town = town;
            this.now = now;
            this.ways = ways;
        }

        boolean holds(int service) {
            for (int i = 0; i < now.orderSize; i++) {
                if (now.order[i] >> 1 == service) {
                    return true;
                }
            }
            return false;
        }

        int minutesNow() {
            ways.refresh();
            return minutesOf(now.order, now.orderSize);
        }

        int minutesOf(int[] codes, int size) {
            int pass = town.passOf(codes[0]);
            if (!ways.goes(pass)) {
                return NEVER;
            }
            int sum = town.length(pass);
            for (int i = 1; i < size; i++) {
                int next = town.passOf(codes[i]);
                sum += ways.leastMinutes(pass, next);
                pass = next;
            }
            return Math.min(sum, NEVER);
        }

        /** Keeps the trial, if it has less minutes than all ahead of it. */
        void consider(int size) {
            int minutes = minutesOf(trial, size);
            if (minutes < least) {
                least = minutes;
                System.arraycopy(trial, 0, finest, 0, size);
            }
        }

        int buildAnew() {
            ways.refresh();
            for (int service = 0; service < town.services; service++) {
                least = NEVER;
                for (int place = 0; place <= service; place++) {
                    tryAt(place, 2 * service, service);
                    tryAt(place, 2 * service + 1, service);
                }
                if (least >= NEVER) {
                    return IMPOSSIBLE;
                }
                System.arraycopy(finest, 0, built, 0, service + 1);
            }
            System.arraycopy(built, 0, now.order, 0, town.services);
            now.orderSize = town.services;
            return least;
        }

        /** A code put in at a place of what is built. */
        void tryAt(int place, int code, int size) {
            if (!town.canDo(code)) {
                return;
            }
            System.arraycopy(built, 0, trial, 0, place);
            trial[place] = code;
            System.arraycopy(built, place, trial, place + 1, size - place);
            consider(size + 1);
        }

        int betterAll() {
            int minutes = minutesNow();
            if (minutes >= NEVER) {
                return IMPOSSIBLE;
            }
            int size = now.orderSize;
            for (int times = 0; times < TIMES; times++) {
                least = minutes;
                trySwaps(size);
                tryTurnings(size);
                tryMoves(size);
                if (least >= minutes) {
                    return times;
                }
                minutes = least;
                System.arraycopy(finest, 0, now.order, 0, size);
            }
            return TIMES;
        }

        void trySwaps(int size) {
            for (int i = 0; i < size; i++) {
                for (int j = i + 1; j < size; j++) {
                    System.arraycopy(now.order, 0, trial, 0, size);
                    trial[i] = now.order[j];
                    trial[j] = now.order[i];
                    consider(size);
                }
            }
        }

        void tryTurnings(int size) {
            for (int i = 0; i < size; i++) {
                for (int j = i; j < size && town.canDo(now.order[j] ^ 1); j++) {
                    System.arraycopy(now.order, 0, trial, 0, size);
                    for (int k = i; k <= j; k++) {
                        trial[k] = now.order[i + j - k] ^ 1;
                    }
                    consider(size);
                }
            }
        }

        void tryMoves(int size) {
            for (int i = 0; i < size; i++) {
                for (int j = 0; j < size; j++) {
                    if (j != i) {
                        move(i, j, size);
                        consider(size);
                    }
                }
            }
        }

        void move(int i, int j, int size) {
            int from = 0;
            for (int to = 0; to < size; to++) {
                if (to == j) {
                    trial[to] = now.order[i];
                } else {
                    from += from == i ? 1 : 0;
                    trial[to] = from < size ? now.order[from] : 0;
                    from++;
                }
            }
        }
    }

    /** Hours that slow and shut. */
    private static final class Clock {
        final Town town;
        final State now;
        final Ways ways;
        /** Of services done and a code done last the soonest minute. */
        final int[] table;
        /** Of a pass gone last the soonest minute, with the services done that are looked at. */
        final int[] times = new int[PASSES];
        final int[] waits = new int[HAND];

        Clock(Town town, State now, Ways ways, int[] table) {
            this.town = town;
            this.now = now;
            this.ways = ways;
            this.table = table;
        }

        static int busyEntry(int kind, int number) {
            int entry = kind == 0 ? (byte) number : kind == 1 ? (short) number : number;
            return Math.max(1, Math.min(MOST_BUSY, entry));
        }

        /** The minute at which a pass is over that begins at a minute of the day. */
        int endOf(int pass, int begin) {
            int hour = Math.min(begin / HOUR, HOURS - 1);
            return begin + (town.length(pass) * now.busyOf[hour] + PERCENT - 1) / PERCENT;
        }

        int timeHand(int minute, Row row) {
            int time = minute;
            for (int i = 0; i + 1 < now.handSize; i++) {
                int pass = now.handPasses[i];
                int turn = ways.handTurn(i);
                int begin = Math.max(time + turn, now.openFrom[pass >> 1]);
                if (turn == NONE || begin > now.openTo[pass >> 1] || endOf(pass, begin) > DAY) {
                    return IMPOSSIBLE - i;
                }
                waits[i] = begin - time - turn;
                time = endOf(pass, begin);
            }
            row.clear();
            for (int i = 0; i + 1 < now.handSize; i++) {
                row.put(waits[i]);
            }
            return time;
        }

        /** The soonest end of a pass that begins at a minute or later: a later hour may be swifter. */
        int soonestEnd(int pass, int ready) {
            int begin = Math.max(ready, now.openFrom[pass >> 1]);
            int least = NEVER;
            for (int hour = begin / HOUR; hour < HOURS && hour * HOUR < least; hour++) {
                int start = Math.max(begin, hour * HOUR);
                int end = endOf(pass, start);
                if (start <= now.openTo[pass >> 1] && end <= DAY) {
                    least = Math.min(least, end);
                }
            }
            return least;
        }

        int soonestRound(int from, int minute) {
            int all = town.allServices();
            if (all == 0) {
                return minute;
            }
            ways.refresh();
            Arrays.fill(table, 0, (all + 1) * CODES, NEVER);
            Arrays.fill(times, NEVER);
            for (int pass = 0; pass < 2 * town.streets; pass++) {
                if (ways.goes(pass) && town.origin(pass) == from) {
                    arrive(pass, soonestEnd(pass, minute), 0);
                }
            }
            settle(0);
            for (int done = 1; done <= all; done++) {
                if (takeUp(done)) {
                    settle(done);
                }
            }
            return soonestAt(from);
        }

        /** A pass is over, behind services done: a time with as many done, or with one more. */
        void arrive(int pass, int time, int done) {
            int with = town.doneWith(pass, done, town.allServices());
            if (with == done) {
                times[pass] = Math.min(times[pass], time);
            } else {
                int place = with * CODES + 2 * town.doneBy[pass] + (pass & 1);
                table[place] = Math.min(table[place], time);
            }
        }

        boolean takeUp(int done) {
            Arrays.fill(times, NEVER);
            boolean some = false;
            for (int code = 0; code < 2 * town.services; code++) {
                int time = table[done * CODES + code];
                if (time < NEVER) {
                    times[town.passOf(code)] = time;
                    some = true;
                }
            }
            return some;
        }

        /** Goes on from the soonest pass that was not looked at, till all were. */
        void settle(int done) {
            long settled = 0;
            for (int round = 0; round < PASSES; round++) {
                int soonest = NONE;
                for (int pass = 0; pass < 2 * town.streets; pass++) {
                    boolean open = (settled >> pass & 1) == 0 && times[pass] < NEVER;
                    if (open && (soonest == NONE || times[pass] < times[soonest])) {
                        soonest = pass;
                    }
                }
                if (soonest == NONE) {
                    return;
                }
                settled |= 1L << soonest;
                goOnFrom(soonest, done);
            }
        }

        void goOnFrom(int pass, int done) {
            for (int i = 0; i < ways.nextCounts[pass]; i++) {
                int next = ways.nexts[pass * CORNERS + i];
                int ready = times[pass] + ways.turnBetween(pass, next);
                arrive(next, soonestEnd(next, ready), done);
            }
        }

        /** With all services done: the times of that set were found last. */
        int soonestAt(int corner) {
            int least = NEVER;
            for (int pass = 0; pass < 2 * town.streets; pass++) {
                if (town.goal(pass) == corner) {
                    least = Math.min(least, times[pass]);
                }
            }
            return least;
        }
    }
}
