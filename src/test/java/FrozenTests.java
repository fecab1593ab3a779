import java.util.ArrayList;
import java.util.List;
import java.util.NoSuchElementException;

/**
 * Refused calls answer NONE, or false, and change nothing: two objects are told the same, one is asked what is
 * refused, and then all that can be asked of both is compared, to the signs of THE TEXT and what is kept. What
 * is asked is cut into pieces, each asked of objects of its own, so that no object is used for more than 512 calls.
 */
public final class FrozenTests extends Check {
    static final int MIN = Integer.MIN_VALUE;
    static final int MAX = Integer.MAX_VALUE;
    static final int[] NO_CORNERS = {-1, 12, MIN, MAX};
    static final int[] NO_STREETS = {-1, 18, 32, MIN, MAX};
    static final int[] NO_SERVICES = {-1, 10, 32, MIN, MAX};
    static final int[] NO_MINUTES = {-1, 1440, MIN, MAX};
    static final int[] NO_SETS = {-1, 4096, MIN, MAX};
    static final int[] NO_NUMBERS = {0, 100, MIN, MAX};
    static final int[] OTHER_WHATS = {-1, 11, MIN, MAX};

    interface Told {
        void by(EveryStreet e);
    }

    /** A boolean counts -1 for false, 1 for true. */
    interface Call {
        int of(EveryStreet e);
    }

    interface Asked {
        void of(EveryStreet e, StringBuilder all);
    }

    static int truth(boolean is) {
        return is ? 1 : -1;
    }

    // ---- what is told

    static void town(EveryStreet e, String text) {
        sign(e, text);
        if (e.town() <= 0) {
            fault(text + " can't be told");
        }
    }

    static void nothing(EveryStreet e) {
        is(0, e.count(0));
    }

    static void some(EveryStreet e) {
        town(e, "a-b:10!;b-c:3!$2;c-a:4;c>d:7;d>a:8!;tcda:5");
        e.ahead(0, 1);
        e.go(0);
        e.go(1);
        e.go(2);
        e.add(1, true);
        e.keep(1);
        e.add(0, false);
        e.prove(1, 3);
        e.prove(2, 1);
        e.shut(3, true);
        e.busy(1, 3, 150, 10);
        e.open(1, 20, 900);
        e.straight(0, 1, 2);
        e.back(8);
        e.keep(2);
        e.best(1, 2);
        sign(e, "d-e:5/6!");
    }

    static void all(EveryStreet e) {
        town(e, "a-b:1!;b-c:1!;c-d:1!;d-e:1!;e-f:1!;f-g:1!;g-h:1!;h-i:1!");
        town(e, "i-j:1!;j-a:1!;a-c:9;a-d:9;a-e:9;a-f:9;a-g:9;a-h:9");
        town(e, "a-i:9;k-l:9;tabc:2;xbab");
        for (int i = 0; i < 9; i++) {
            e.ahead(i, i + 1);
        }
        for (int i = 0; i < 60; i++) {
            e.go(i % 2);
        }
        for (int i = 0; i < 10; i++) {
            e.add(9 - i, true);
        }
        for (int i = 0; i < 12; i++) {
            e.prove(1 << i, i + 1);
        }
        e.keep(0);
        e.back(99);
        e.shut(17, true);
        e.keep(1);
        e.busy(2, 24, 1, 17);
        e.open(0, 0, 1439);
        e.open(17, 1439, 1439);
        e.keep(2);
        e.timed(0);
        sign(e, "tkli:7;tlkj:8;xlkc" + "?".repeat(82));
    }

    // ---- what is asked

    static void add(StringBuilder all, int answer) {
        all.append(answer).append(' ');
    }

    static void row(EveryStreet e, StringBuilder all) {
        int size = e.count(6);
        for (int i = 0; i < size; i++) {
            add(all, e.row(i));
        }
        all.append('\n');
    }

    static void counts(EveryStreet e, StringBuilder all) {
        row(e, all);
        for (int what = 0; what <= 10; what++) {
            add(all, e.count(what));
        }
        for (int i = 0; i < e.count(4); i++) {
            add(all, e.pass(i, 0));
            add(all, e.pass(i, 1));
        }
        for (int i = 0; i < e.count(1); i++) {
            for (int what = 0; what <= 3; what++) {
                add(all, e.service(i, what));
            }
        }
        for (int i = 0; i < 12; i++) {
            add(all, e.turn(i, 0, 1));
            add(all, e.turn(1, 0, i));
            add(all, e.turn(i, 1, 0));
            add(all, e.turn(0, 1, i));
            add(all, e.between(0, i));
        }
    }

    static void streets(EveryStreet e, StringBuilder all) {
        for (int s = 0; s < e.count(0); s++) {
            for (int what = 0; what <= 6; what++) {
                add(all, e.street(s, what));
            }
        }
    }

    static void hand(EveryStreet e, StringBuilder all) {
        for (int i = 0; i < 4; i++) {
            add(all, e.mislead(i));
        }
        for (int n = e.count(3); n >= 0; n -= n > 4 ? 7 : 1) {
            e.undo(n);
            add(all, e.judge());
            row(e, all.append("judged "));
            add(all, e.card());
            add(all, e.rest());
            add(all, e.timed(30));
        }
    }

    static void hours(EveryStreet e, StringBuilder all) {
        e.undo(0);
        e.go(0);
        e.go(1);
        for (int hour = 0; hour < 24; hour++) {
            add(all, e.timed(60 * hour));
        }
        for (int s = 0; s < 18; s++) {
            e.undo(0);
            e.go(e.street(s, 0));
            e.go(e.street(s, 1));
            add(all, e.timed(s % 2 == 0 ? 0 : 1430));
        }
    }

    /** Of the passes to b from a and from c whether those behind them are straight on. */
    static void straights(EveryStreet e, StringBuilder all) {
        for (int a = 0; a <= 2; a += 2) {
            for (int c = 0; c < 12; c++) {
                e.undo(0);
                if (e.go(a) == 1 && e.go(1) == 2 && e.go(c) == 3) {
                    add(all, e.card());
                }
            }
        }
    }

    static void answers(EveryStreet e, StringBuilder all) {
        add(all, e.order());
        add(all, e.worth());
        add(all, e.line());
        add(all, e.pair());
        add(all, e.floor());
        add(all, e.cut(3));
        add(all, e.level());
        add(all, e.far(0, 3));
        for (int a = 0; a < 4; a++) {
            add(all, e.best(a, 1));
            row(e, all);
            add(all, e.some(a, 0));
            add(all, e.some(a, 1));
            add(all, e.bars(a));
            add(all, e.give(a));
            add(all, e.soonest(a, 40));
            add(all, e.carts(a, 2, 9, 1));
        }
        add(all, e.parts(2));
        add(all, e.better());
        add(all, e.order());
        add(all, e.drop());
        add(all, e.worth());
    }

    static void kept(EveryStreet e, StringBuilder all, int i) {
        add(all, truth(e.again(i)));
        counts(e, all);
        hours(e, all);
        add(all, e.order());
        add(all, e.worth());
        add(all, e.drop());
    }

    static void text(EveryStreet e, StringBuilder all) {
        int size = e.count(7);
        add(all, size);
        e.end(18);
        add(all, e.town());
        add(all, e.count(0));
        add(all, e.count(5));
        add(all, e.street(e.count(0) - 1, 2));
        add(all, e.turn(10, 11, 8));
    }

    static final Asked[] ALL_ASKED = {FrozenTests::counts, FrozenTests::streets, FrozenTests::hand,
        FrozenTests::hours, FrozenTests::straights, FrozenTests::answers, (e, all) -> kept(e, all, 0),
        (e, all) -> kept(e, all, 1), (e, all) -> kept(e, all, 2), FrozenTests::text};

    // ---- comparing

    static final Told[] TOWNS = {FrozenTests::nothing, FrozenTests::some, FrozenTests::all};
    static final String[] NAMES = {"a new object", "some told", "all full"};
    static final String[][] WANTED = new String[3][ALL_ASKED.length];

    static String asked(int town, Call call, int due, int asked) {
        EveryStreet e = new EveryStreet();
        TOWNS[town].by(e);
        is(due, call.of(e));
        StringBuilder all = new StringBuilder();
        ALL_ASKED[asked].of(e, all);
        return all.toString();
    }

    static void frozen(int town, String name, int due, Call call) {
        promise = name + ", " + NAMES[town];
        for (int i = 0; i < ALL_ASKED.length; i++) {
            if (WANTED[town][i] == null) {
                WANTED[town][i] = asked(town, e -> -1, -1, i);
            }
            checks++;
            String got = asked(town, call, due, i);
            if (!got.equals(WANTED[town][i])) {
                fault("a refused call changes something: " + i + "\n" + WANTED[town][i] + "\n" + got);
            }
        }
    }

    /** Refused in each town. */
    static void refused(String name, Call call) {
        for (int town = 0; town < TOWNS.length; town++) {
            frozen(town, name, -1, call);
        }
    }

    // ---- calls that are refused

    static void refusedOfTheTown() {
        int[] sizes = {-1, 101, MIN, MAX};
        for (int n : sizes) {
            refused("3 end " + n, e -> truth(e.end(n)));
        }
        int[] backs = {-1, 100, MIN, MAX};
        for (int v : backs) {
            refused("5 back " + v, e -> e.back(v));
        }
        for (int s : NO_SERVICES) {
            refused("10 ahead " + s, e -> truth(e.ahead(s, 0)));
            refused("10 ahead of " + s, e -> truth(e.ahead(0, s)));
        }
        for (int s : NO_STREETS) {
            refused("11 shut " + s, e -> truth(e.shut(s, true)));
            refused("11 not shut " + s, e -> truth(e.shut(s, false)));
        }
        frozen(0, "3 end", -1, e -> truth(e.end(1)));
        frozen(1, "3 end", -1, e -> truth(e.end(9)));
        frozen(2, "2 sign", -1, e -> e.sign(0x612D623A));
        frozen(0, "10 ahead", -1, e -> truth(e.ahead(0, 1)));
        frozen(1, "10 ahead of itself", -1, e -> truth(e.ahead(1, 1)));
        frozen(1, "10 ahead by another", -1, e -> truth(e.ahead(1, 0)));
        frozen(2, "10 ahead by others", -1, e -> truth(e.ahead(9, 0)));
        frozen(0, "11 shut", -1, e -> truth(e.shut(0, true)));
        frozen(1, "11 shut", -1, e -> truth(e.shut(5, true)));
    }

    static void refusedOfProofsAndHands() {
        for (int bits : NO_SETS) {
            refused("16 cut " + bits, e -> e.cut(bits));
            refused("17 prove " + bits, e -> e.prove(bits, 1));
        }
        for (int number : NO_NUMBERS) {
            refused("17 prove of " + number, e -> e.prove(1, number));
        }
        for (int corner : NO_CORNERS) {
            refused("25 go " + corner, e -> e.go(corner));
        }
        int[] sizes = {-1, 61, MIN, MAX};
        for (int n : sizes) {
            refused("26 undo " + n, e -> truth(e.undo(n)));
        }
        frozen(2, "17 prove a 13th", -1, e -> e.prove(1, 1));
        frozen(1, "25 go, SHUT", -1, e -> e.go(3));
        frozen(1, "25 go, no STREET", -1, e -> e.go(11));
        frozen(1, "25 go, where one is", -1, e -> e.go(2));
        frozen(2, "25 go on from 60", -1, e -> e.go(0));
        frozen(0, "26 undo", -1, e -> truth(e.undo(1)));
        frozen(1, "26 undo", -1, e -> truth(e.undo(4)));
        frozen(0, "27 judge", -1, EveryStreet::judge);
        frozen(0, "28 rest", -1, EveryStreet::rest);
        frozen(0, "29 timed", -1, e -> e.timed(0));
        frozen(0, "41 card", -1, EveryStreet::card);
    }

    static void refusedOfTimes() {
        for (int minute : NO_MINUTES) {
            refused("29 timed " + minute, e -> e.timed(minute));
            refused("31 open from " + minute, e -> truth(e.open(0, minute, 1439)));
            refused("31 open to " + minute, e -> truth(e.open(0, 0, minute)));
            refused("32 soonest " + minute, e -> e.soonest(0, minute));
        }
        for (int s : NO_STREETS) {
            refused("31 open " + s, e -> truth(e.open(s, 0, 1)));
        }
        refused("31 open backward", e -> truth(e.open(0, 1, 0)));
        frozen(1, "31 open", -1, e -> truth(e.open(5, 0, 1)));
        int[] kinds = {-1, 4, MIN, MAX};
        int[] many = {25, MAX};
        for (int kind : kinds) {
            refused("30 busy of kind " + kind, e -> e.busy(kind, 3, 7, 7));
            refused("30 busy of kind " + kind + ", n below 0", e -> e.busy(kind, -1, 7, 7));
        }
        for (int n : many) {
            for (int kind = 0; kind <= 3; kind++) {
                int of = kind;
                refused("30 busy of " + n + " of kind " + kind, e -> e.busy(of, n, 7, 7));
            }
        }
        for (int town = 0; town < 3; town++) {
            for (int kind = 0; kind <= 2; kind++) {
                int of = kind;
                frozen(town, "30 busy, n below 0", -2, e -> e.busy(of, -1, 7, 7));
                frozen(town, "30 busy, n far below 0", -2, e -> e.busy(of, MIN, 7, 7));
            }
        }
    }

    static void refusedOfOrdersAndCarts() {
        for (int s : NO_SERVICES) {
            refused("33 add " + s, e -> e.add(s, false));
            refused("33 add back " + s, e -> e.add(s, true));
        }
        frozen(0, "33 add", -1, e -> e.add(0, false));
        frozen(1, "33 add again", -1, e -> e.add(1, false));
        frozen(1, "33 add against one way", -1, e -> e.add(2, true));
        frozen(2, "33 add an 11th", -1, e -> e.add(0, true));
        frozen(0, "34 order", -1, EveryStreet::order);
        frozen(0, "35 build", -1, EveryStreet::build);
        frozen(0, "36 better", -1, EveryStreet::better);
        int[] numbers = {0, 5, MIN, MAX};
        for (int k : numbers) {
            refused("38 carts " + k, e -> e.carts(0, k, 99, 0));
            refused("39 parts " + k, e -> e.parts(k));
        }
        for (int cap : NO_NUMBERS) {
            refused("38 carts of " + cap, e -> e.carts(0, 1, cap, 0));
        }
        int[] whats = {-1, 2, MIN, MAX};
        for (int what : whats) {
            refused("38 carts, what " + what, e -> e.carts(0, 1, 99, what));
        }
    }

    static void refusedOfCorners() {
        for (int corner : NO_CORNERS) {
            refused("7 between", e -> e.between(corner, 1));
            refused("8 turn", e -> e.turn(0, corner, 1));
            refused("13 far", e -> e.far(0, corner));
            refused("21 best from", e -> e.best(corner, 0));
            refused("21 best to", e -> e.best(0, corner));
            refused("22 some", e -> e.some(corner, 0));
            refused("23 bars", e -> e.bars(corner));
            refused("24 give", e -> e.give(corner));
            refused("32 soonest", e -> e.soonest(corner, 0));
            refused("38 carts", e -> e.carts(corner, 1, 99, 0));
            refused("40 straight from " + corner, e -> truth(e.straight(corner, 1, 2)));
            refused("40 straight by " + corner, e -> truth(e.straight(0, corner, 2)));
            if (corner != -1) {
                refused("40 straight to " + corner, e -> truth(e.straight(0, 1, corner)));
            }
        }
        int[] bits = {-1, 1 << 10, MIN, MAX};
        for (int set : bits) {
            refused("22 some of no SERVICES", e -> e.some(0, set));
        }
        refused("40 straight back", e -> truth(e.straight(0, 1, 0)));
        refused("40 straight, no STREET ahead", e -> truth(e.straight(10, 1, 2)));
        refused("40 straight, no STREET behind", e -> truth(e.straight(0, 1, 10)));
        refused("40 straight nowhere, no STREET", e -> truth(e.straight(10, 1, -1)));
    }

    static void refusedOfNumbers() {
        for (int what : OTHER_WHATS) {
            refused("6 street", e -> e.street(0, what));
            refused("9 service", e -> e.service(0, what));
            refused("37 pass", e -> e.pass(0, what));
            refused("45 count", e -> e.count(what));
            refused("42 mislead", e -> e.mislead(what));
            refused("46 row", e -> thrown(e, what == 11 ? 120 : what));
        }
        int[] others = {-1, 3, MIN, MAX};
        for (int i : others) {
            refused("43 keep " + i, e -> truth(e.keep(i)));
            refused("44 again " + i, e -> truth(e.again(i)));
        }
        for (int i = 0; i < 3; i++) {
            int number = i;
            frozen(0, "44 again", -1, e -> truth(e.again(number)));
        }
        frozen(1, "44 again", -1, e -> truth(e.again(0)));
    }

    static int thrown(EveryStreet e, int i) {
        try {
            return e.row(i) == 0 ? 0 : 1;
        } catch (NoSuchElementException due) {
            return -1;
        }
    }

    // ---- towns that can't be told

    /** But for THE TEXT, which is empty then. */
    static void failingTowns() {
        List<String> failing = new ArrayList<>(List.of("", "?", "k-l:0", "e-g:5;", "tabc:9;xbcd;?", "e-g:7!;e-h:8=;e-g",
            "xabc;".repeat(12), "xabc;".repeat(11) + "xabcd", "xabc;".repeat(20)));
        int[] dues = {-1, -1, -5, -7, -13, -17, -61, -60, -61};
        failing.add("tabc:9;b-d:1=;b-e:1=;b-f:1=;b-g:1=;b-h:1=;b-i:1=");
        for (int town = 0; town < TOWNS.length; town++) {
            for (int i = 0; i < failing.size(); i++) {
                String text = failing.get(i);
                int due = i < dues.length ? dues[i] : -100;
                if (!(town == 2 && i == 2)) {
                    unTold(town, text, due);
                }
            }
        }
        unTold(2, "b-k:1", -100);
        unTold(2, "xabc;b>l:1!", -100);
    }

    static void unTold(int town, String text, int due) {
        promise = "4 town " + text + ", " + NAMES[town];
        for (int i = 0; i < ALL_ASKED.length; i++) {
            String want = asked(town, e -> truth(e.end(0)), 1, i);
            String got = asked(town, e -> failing(e, text), due, i);
            checks++;
            if (!want.equals(got)) {
                fault("a town that can't be told changes something: " + i + "\n" + want + "\n" + got);
            }
        }
    }

    static int failing(EveryStreet e, String text) {
        e.end(0);
        sign(e, text);
        return e.town();
    }

    public static void main(String[] args) {
        refusedOfTheTown();
        refusedOfProofsAndHands();
        refusedOfTimes();
        refusedOfOrdersAndCarts();
        refusedOfCorners();
        refusedOfNumbers();
        failingTowns();
        finish("FrozenTests");
    }
}
