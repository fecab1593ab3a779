import java.util.ArrayList;
import java.util.Arrays;
import java.util.HashSet;
import java.util.List;
import java.util.PriorityQueue;
import java.util.Set;

/**
 * Small towns from a fixed row of numbers: each answer against a slow and plain search, which reads the
 * town by street(), turn() and service() alone.
 */
public final class OracleTests {
    static final int NEVER = 1 << 28;
    static int checks;
    static int faults;
    static long seed = 20261118;

    static int draw(int below) {
        seed = seed * 6364136223846793005L + 1442695040888963407L;
        return (int) ((seed >>> 33) % below);
    }

    static void same(String what, Object due, Object got) {
        checks++;
        if (!due.equals(got)) {
            faults++;
            if (faults < 40) {
                System.out.println(what + ": due " + due + ", answered " + got);
            }
        }
    }

    // ---- telling a town

    static int tell(EveryStreet e, String text) {
        for (int i = 0; i < text.length(); i += 4) {
            int v = 0;
            for (int j = 0; j < 4; j++) {
                v = v << 8 | (i + j < text.length() ? text.charAt(i + j) : 0);
            }
            e.sign(v);
        }
        e.end(text.length());
        return e.town();
    }

    static List<Integer> row(EveryStreet e) {
        List<Integer> list = new ArrayList<>();
        for (int i = 0; i < e.count(6); i++) {
            list.add(e.row(i));
        }
        return list;
    }

    /** What the searches know of a town. */
    static final class Map {
        int streets;
        int services;
        int[][] go = new int[12][12];
        int[][] street = new int[12][12];
        int[][] doneBy = new int[12][12];
        int[][][] turn = new int[12][12][12];
        int[] lesser;
        int[] ends;
        int[] streetOf;
        int[] way;
        int[] load;
        int[] ahead;

        Map(EveryStreet e) {
            streets = e.count(0);
            services = e.count(1);
            lesser = new int[streets];
            ends = new int[streets];
            for (int[] r : go) {
                Arrays.fill(r, NEVER);
            }
            for (int[] r : street) {
                Arrays.fill(r, -1);
            }
            for (int[] r : doneBy) {
                Arrays.fill(r, -1);
            }
            for (int s = 0; s < streets; s++) {
                int a = e.street(s, 0);
                int b = e.street(s, 1);
                ends[s] = 1 << a | 1 << b;
                firsts[s] = a;
                street[a][b] = s;
                street[b][a] = s;
                go[a][b] = e.street(s, 6) == 1 ? NEVER : e.street(s, 2);
                go[b][a] = e.street(s, 6) == 1 || e.street(s, 3) < 0 ? NEVER : e.street(s, 3);
                lesser[s] = e.street(s, 3) < 0 ? e.street(s, 2) : Math.min(e.street(s, 2), e.street(s, 3));
            }
            streetOf = new int[services];
            way = new int[services];
            load = new int[services];
            ahead = new int[services];
            for (int i = 0; i < services; i++) {
                int s = e.service(i, 0);
                streetOf[i] = s;
                way[i] = e.service(i, 1);
                load[i] = e.service(i, 2);
                ahead[i] = e.service(i, 3);
                if (way[i] != 2) {
                    doneBy[e.street(s, 0)][e.street(s, 1)] = i;
                }
                if (way[i] != 1) {
                    doneBy[e.street(s, 1)][e.street(s, 0)] = i;
                }
            }
            for (int a = 0; a < 12; a++) {
                for (int b = 0; b < 12; b++) {
                    for (int c = 0; c < 12; c++) {
                        turn[a][b][c] = a == b || b == c ? NEVER : e.turn(a, b, c);
                        if (turn[a][b][c] < 0) {
                            turn[a][b][c] = NEVER;
                        }
                    }
                }
            }
        }

        int[] firsts = new int[18];

        int all() {
            return (1 << services) - 1;
        }

        int firstOf(int service) {
            return firsts[streetOf[service]];
        }

        int with(int done, int aim, int a, int b) {
            int s = doneBy[a][b];
            boolean does = s >= 0 && (aim >> s & 1) == 1 && (ahead[s] & aim & ~done) == 0;
            return does ? done | 1 << s : done;
        }
    }

    static EveryStreet randomTown(int corners, int mostStreets, int mostServices, boolean laws) {
        EveryStreet e = new EveryStreet();
        Set<Integer> used = new HashSet<>();
        int services = 0;
        int streets = 2 + draw(mostStreets - 1);
        int dear = draw(3) == 0 ? 9 : 3;
        for (int i = 0; i < streets; i++) {
            int a = draw(corners);
            int b = draw(corners);
            if (a == b || !used.add(Math.min(a, b) * 12 + Math.max(a, b))) {
                continue;
            }
            boolean oneWay = draw(4) == 0;
            StringBuilder text = new StringBuilder();
            text.append((char) ('a' + a)).append(oneWay ? '>' : '-').append((char) ('a' + b));
            text.append(':').append(1 + draw(dear));
            if (!oneWay && draw(3) == 0) {
                text.append('/').append(1 + draw(dear));
            }
            int kind = draw(4);
            if (kind >= 1 && kind <= 2 && services < mostServices) {
                text.append('!');
                services++;
            } else if (kind == 3 && !oneWay && services + 1 < mostServices && draw(2) == 0) {
                text.append('=');
                services += 2;
            } else {
                kind = 0;
            }
            if (text.charAt(text.length() - 1) < '0' && draw(2) == 0) {
                text.append('$').append(1 + draw(3));
            }
            if (tell(e, text.toString()) != 1) {
                same("town " + text, 1, -1);
            }
        }
        if (laws) {
            for (int i = draw(8); i > 0; i--) {
                int a = draw(corners);
                int b = draw(corners);
                int c = draw(corners);
                if (a != b && b != c) {
                    String at = "" + (char) ('a' + a) + (char) ('a' + b) + (char) ('a' + c);
                    same("turn told", 1, tell(e, draw(2) == 0 ? "x" + at : "t" + at + ":" + draw(9)));
                }
            }
            e.back(draw(3) == 0 ? draw(9) : 0);
            for (int i = draw(4); i > 0 && e.count(1) > 1; i--) {
                e.ahead(draw(e.count(1)), draw(e.count(1)));
            }
        }
        return e;
    }

    static void shutSome(EveryStreet e) {
        if (draw(3) == 0 && e.count(0) > 0) {
            e.shut(draw(e.count(0)), true);
        }
    }

    // ---- walks

    static final class Found implements Comparable<Found> {
        int minutes;
        int done;
        List<Integer> corners;

        Found(int minutes, int done, List<Integer> corners) {
            this.minutes = minutes;
            this.done = done;
            this.corners = corners;
        }

        public int compareTo(Found o) {
            if (minutes != o.minutes) {
                return Integer.compare(minutes, o.minutes);
            }
            for (int i = 0; i < corners.size() && i < o.corners.size(); i++) {
                if (!corners.get(i).equals(o.corners.get(i))) {
                    return corners.get(i) - o.corners.get(i);
                }
            }
            return corners.size() - o.corners.size();
        }
    }

    /** The first least walk, begun at a corner (or behind one more): null if none. */
    static Found leastWalk(Map m, int prev, int from, int done, int aim, int to) {
        PriorityQueue<Found> queue = new PriorityQueue<>();
        Set<Integer> seen = new HashSet<>();
        List<Integer> begin = new ArrayList<>();
        begin.add(prev);
        begin.add(from);
        queue.add(new Found(0, done, begin));
        while (!queue.isEmpty()) {
            Found f = queue.poll();
            int at = f.corners.get(f.corners.size() - 1);
            int before = f.corners.get(f.corners.size() - 2);
            if (at == to && f.done == aim) {
                f.corners = f.corners.subList(1, f.corners.size());
                return f;
            }
            if (!seen.add((f.done * 13 + before + 1) * 12 + at)) {
                continue;
            }
            for (int c = 0; c < 12; c++) {
                int turn = before < 0 ? 0 : at == c ? NEVER : m.turn[before][at][c];
                if (m.go[at][c] >= NEVER || turn >= NEVER) {
                    continue;
                }
                List<Integer> corners = new ArrayList<>(f.corners);
                corners.add(c);
                queue.add(new Found(f.minutes + turn + m.go[at][c], m.with(f.done, aim, at, c), corners));
            }
        }
        return null;
    }

    static void checkWalk(EveryStreet e, String what, Found due, int got) {
        same(what, due == null ? -2 : due.minutes, got);
        if (due != null && got >= 0) {
            List<Integer> corners = due.corners.subList(0, Math.min(120, due.corners.size()));
            same(what + " row", new ArrayList<>(corners), row(e));
        }
    }

    static void walks() {
        for (int round = 0; round < 400; round++) {
            EveryStreet e = randomTown(3 + draw(4), 9, 5, true);
            shutSome(e);
            Map m = new Map(e);
            int from = draw(5);
            int to = draw(5);
            checkWalk(e, "best", leastWalk(m, -1, from, 0, m.all(), to), e.best(from, to));
            int bits = draw(m.all() + 1);
            checkWalk(e, "some", leastWalk(m, -1, from, 0, bits, from), e.some(from, bits));
            given(e, m, from);
            barring(e, m, from);
            byHand(e, m, from);
        }
    }

    static void given(EveryStreet e, Map m, int from) {
        int due = -1;
        for (int given = 0; given <= m.all(); given++) {
            boolean fewer = due < 0 || Integer.bitCount(given) < Integer.bitCount(due);
            if (fewer && leastWalk(m, -1, from, 0, m.all() & ~given, from) != null) {
                due = given;
            }
        }
        same("give", Integer.bitCount(due), e.give(from));
        same("give row", List.of(due), row(e));
    }

    static void barring(EveryStreet e, Map m, int from) {
        int due = -1;
        if (leastWalk(m, -1, from, 0, m.all(), from) != null) {
            due = -2;
        }
        for (int b = 0; b < 12 && due == -1; b++) {
            Map free = new Map(e);
            for (int a = 0; a < 12; a++) {
                for (int c = 0; c < 12; c++) {
                    if (a != b && b != c && free.turn[a][b][c] >= NEVER) {
                        free.turn[a][b][c] = 0;
                    }
                }
            }
            if (leastWalk(free, -1, from, 0, free.all(), from) != null) {
                due = b;
            }
        }
        same("bars", due, e.bars(from));
    }

    // ---- by hand

    static List<Integer> randomHand(EveryStreet e, int from, int steps) {
        List<Integer> hand = new ArrayList<>();
        e.undo(0);
        same("go", 1, e.go(from));
        hand.add(from);
        for (int i = 0; i < steps; i++) {
            int to = draw(6);
            if (e.go(to) > 0) {
                hand.add(to);
            }
        }
        return hand;
    }

    static void byHand(EveryStreet e, Map m, int from) {
        List<Integer> hand = randomHand(e, from, draw(20));
        int done = 0;
        int minutes = 0;
        int barred = 0;
        for (int i = 0; i + 1 < hand.size(); i++) {
            int a = hand.get(i);
            int b = hand.get(i + 1);
            int turn = i == 0 ? 0 : m.turn[hand.get(i - 1)][a][b];
            if (turn >= NEVER && barred == 0) {
                barred = -2 - i;
            }
            minutes += m.go[a][b] + (turn >= NEVER ? 0 : turn);
            done = m.with(done, m.all(), a, b);
        }
        same("judge", barred, e.judge());
        same("judge row", List.of(minutes, done), row(e));
        int prev = hand.size() > 1 ? hand.get(hand.size() - 2) : -1;
        Found due = leastWalk(m, prev, hand.get(hand.size() - 1), done, m.all(), from);
        checkWalk(e, "rest", due, e.rest());
        cards(e, m, hand);
    }

    static void cards(EveryStreet e, Map m, List<Integer> hand) {
        int[][] straight = new int[12][12];
        for (int[] r : straight) {
            Arrays.fill(r, -1);
        }
        for (int i = 0; i < 12; i++) {
            int a = draw(6);
            int b = draw(6);
            int c = draw(7) - 1;
            boolean due = m.street[a][b] >= 0 && (c == -1 || c != a && m.street[b][c] >= 0);
            same("straight", due, e.straight(a, b, c));
            if (due) {
                straight[a][b] = c;
            }
        }
        int[][] on = new int[12][12];
        for (int[] r : on) {
            Arrays.fill(r, -1);
        }
        int stray = 0;
        List<Integer> words = new ArrayList<>();
        for (int i = 1; i + 1 < hand.size() && stray == 0; i++) {
            int a = hand.get(i - 1);
            int b = hand.get(i);
            int c = hand.get(i + 1);
            if (on[a][b] >= 0 && on[a][b] != c) {
                stray = -2 - i;
            } else if (on[a][b] < 0) {
                on[a][b] = c;
                if (straight[a][b] != c) {
                    words.addAll(List.of(a, b, c));
                }
            }
        }
        same("card", stray != 0 ? stray : words.size() / 3, e.card());
        if (stray != 0) {
            same("mislead without a card", -1, e.mislead(0));
            return;
        }
        same("card row", words, row(e));
        for (int lost = -1; lost <= words.size() / 3; lost++) {
            same("mislead " + lost, stranger(hand, straight, words, lost), e.mislead(lost));
        }
    }

    static int stranger(List<Integer> hand, int[][] straight, List<Integer> words, int lost) {
        if (lost < 0 || lost >= words.size() / 3) {
            return -1;
        }
        for (int place = 1; place + 1 < hand.size(); place++) {
            int a = hand.get(place - 1);
            int b = hand.get(place);
            int next = straight[a][b];
            for (int w = 0; w < words.size() / 3; w++) {
                if (w != lost && words.get(3 * w) == a && words.get(3 * w + 1) == b) {
                    next = words.get(3 * w + 2);
                }
            }
            if (next != hand.get(place + 1)) {
                return place;
            }
        }
        return -1;
    }

    // ---- time

    static int[] busyOf = new int[24];

    static int over(int minutes, int begin) {
        return begin + (minutes * busyOf[begin / 60] + 99) / 100;
    }

    static void times() {
        for (int round = 0; round < 120; round++) {
            EveryStreet e = randomTown(3 + draw(3), 7, 4, true);
            Arrays.fill(busyOf, 100);
            if (draw(4) > 0) {
                int n = draw(25);
                int f = draw(300) - 20;
                int step = draw(200) - 100;
                e.busy(2, n, f, step);
                for (int i = 0; i < n; i++) {
                    busyOf[i] = Math.max(1, Math.min(400, f + step * i));
                }
            }
            int minute = draw(3) == 0 ? 1300 + draw(140) : draw(1440);
            int[] from = new int[18];
            int[] to = new int[18];
            Arrays.fill(to, 1439);
            for (int s = 0; s < e.count(0); s++) {
                if (draw(2) == 0) {
                    from[s] = Math.min(1439, Math.max(0, minute + draw(300) - 150));
                    to[s] = Math.min(1439, from[s] + draw(200));
                    same("open", true, e.open(s, from[s], to[s]));
                }
            }
            int corner = draw(4);
            List<Integer> hand = randomHand(e, corner, draw(7));
            timedHand(e, new Map(e), hand, minute, from, to);
            shutSome(e);
            Map m = new Map(e);
            same("soonest", soonest(m, corner, minute, from, to), e.soonest(corner, minute));
        }
    }

    static void timedHand(EveryStreet e, Map m, List<Integer> hand, int minute, int[] from, int[] to) {
        int time = minute;
        int due = 0;
        List<Integer> waits = new ArrayList<>();
        for (int i = 0; i + 1 < hand.size() && due == 0; i++) {
            int a = hand.get(i);
            int b = hand.get(i + 1);
            int turn = i == 0 ? 0 : m.turn[hand.get(i - 1)][a][b];
            int begin = time + turn;
            int wait = 0;
            while (begin + wait <= 1439 && (begin + wait < from[m.street[a][b]] || begin + wait > to[m.street[a][b]])) {
                wait++;
            }
            if (begin + wait > 1439 || over(m.go[a][b], begin + wait) > 1440) {
                due = -2 - i;
            } else {
                waits.add(wait);
                time = over(m.go[a][b], begin + wait);
            }
        }
        same("timed", due != 0 ? due : time, e.timed(minute));
        if (due == 0) {
            same("timed row", waits, row(e));
        }
    }

    /** Minute by minute: who stands where, by which pass, with what done. */
    static int soonest(Map m, int corner, int minute, int[] from, int[] to) {
        int states = (m.all() + 1) * 13 * 12;
        boolean[][] at = new boolean[1441][states];
        at[minute][12 * 12 + corner] = true;
        for (int t = minute; t <= 1440; t++) {
            for (int state = 0; state < states; state++) {
                if (!at[t][state]) {
                    continue;
                }
                int here = state % 12;
                int prev = state / 12 % 13;
                int done = state / 12 / 13;
                if (here == corner && done == m.all()) {
                    return t;
                }
                if (t < 1440) {
                    at[t + 1][state] = true;
                }
                for (int c = 0; c < 12; c++) {
                    int turn = prev == 12 ? 0 : here == c ? NEVER : m.turn[prev][here][c];
                    if (m.go[here][c] >= NEVER || turn >= NEVER || t + turn > 1439) {
                        continue;
                    }
                    int begin = t + turn;
                    int s = m.street[here][c];
                    if (begin >= from[s] && begin <= to[s] && over(m.go[here][c], begin) <= 1440) {
                        int next = (m.with(done, m.all(), here, c) * 13 + here) * 12 + c;
                        at[over(m.go[here][c], begin)][next] = true;
                    }
                }
            }
        }
        return -2;
    }

    // ---- lines, pairs, bounds

    static void bounds() {
        for (int round = 0; round < 400; round++) {
            EveryStreet e = randomTown(3 + draw(6), 10, 8, round % 2 == 0);
            shutSome(e);
            Map m = new Map(e);
            int bits = 0;
            for (int i = 0; i < m.services; i++) {
                bits ^= m.ends[m.streetOf[i]];
            }
            same("odd", bits, e.count(8));
            List<Integer> odds = new ArrayList<>();
            for (int c = 0; c < 12; c++) {
                if ((bits >> c & 1) == 1) {
                    odds.add(c);
                }
            }
            lines(e, m, odds);
            pairs(e, m, odds);
            cuts(e, m, bits);
        }
    }

    static void lines(EveryStreet e, Map m, List<Integer> odds) {
        int start = 12;
        for (int i = 0; i < m.services; i++) {
            start = Math.min(start, Integer.numberOfTrailingZeros(m.ends[m.streetOf[i]]));
        }
        List<Integer> line = new ArrayList<>();
        line.add(start);
        if (m.services == 0) {
            same("line of none", 0, e.line());
        } else if (extend(e, m, line, 0)) {
            same("line", m.services, e.line());
            same("line row", line, row(e));
        } else {
            same("no line", -2, e.line());
            same("no line row", odds, row(e));
        }
    }

    static boolean extend(EveryStreet e, Map m, List<Integer> line, int gone) {
        int at = line.get(line.size() - 1);
        if (gone == m.all()) {
            return at == line.get(0);
        }
        for (int c = 0; c < 12; c++) {
            int s = m.doneBy[at][c];
            if (s < 0 || (gone >> s & 1) == 1) {
                continue;
            }
            boolean against = e.street(m.streetOf[s], 3) < 0 && e.street(m.streetOf[s], 0) != at;
            if (against) {
                continue;
            }
            line.add(c);
            if (extend(e, m, line, gone | 1 << s)) {
                return true;
            }
            line.remove(line.size() - 1);
        }
        return false;
    }

    static int[][] farOf(Map m) {
        int[][] far = new int[12][12];
        for (int a = 0; a < 12; a++) {
            Arrays.fill(far[a], NEVER);
            far[a][a] = 0;
            for (int round = 0; round < 12; round++) {
                for (int b = 0; b < 12; b++) {
                    for (int c = 0; c < 12; c++) {
                        if (m.street[b][c] >= 0 && far[a][b] < NEVER) {
                            far[a][c] = Math.min(far[a][c], far[a][b] + m.lesser[m.street[b][c]]);
                        }
                    }
                }
            }
        }
        return far;
    }

    static int leastSum;
    static List<Integer> leastPairs;

    static void match(int[][] far, List<Integer> left, List<Integer> so, int sum) {
        if (left.isEmpty()) {
            if (sum < leastSum) {
                leastSum = sum;
                leastPairs = new ArrayList<>(so);
            }
            return;
        }
        for (int i = 1; i < left.size(); i++) {
            List<Integer> rest = new ArrayList<>(left);
            List<Integer> more = new ArrayList<>(so);
            more.add(left.get(0));
            more.add(left.get(i));
            rest.remove(i);
            rest.remove(0);
            if (far[left.get(0)][left.get(i)] < NEVER) {
                match(far, rest, more, sum + far[left.get(0)][left.get(i)]);
            }
        }
    }

    static void pairs(EveryStreet e, Map m, List<Integer> odds) {
        int[][] far = farOf(m);
        int a = draw(12);
        int b = draw(12);
        same("far", far[a][b] >= NEVER ? -1 : far[a][b], e.far(a, b));
        leastSum = NEVER;
        leastPairs = new ArrayList<>();
        match(far, odds, new ArrayList<>(), 0);
        same("pair", leastSum >= NEVER ? -2 : leastSum, e.pair());
        if (leastSum < NEVER) {
            same("pair row", leastPairs, row(e));
        }
        int sum = leastSum;
        for (int i = 0; i < m.services; i++) {
            sum += m.lesser[m.streetOf[i]];
        }
        same("floor", leastSum >= NEVER ? -2 : sum, e.floor());
    }

    static void cuts(EveryStreet e, Map m, int odd) {
        int[] borne = new int[m.streets];
        int sum = 0;
        for (int i = 0; i < 5; i++) {
            int bits = draw(4096);
            int least = NEVER;
            int number = 1 + draw(2);
            for (int s = 0; s < m.streets; s++) {
                if (Integer.bitCount(m.ends[s] & bits) == 1) {
                    least = Math.min(least, m.lesser[s]);
                    borne[s] += number;
                }
            }
            boolean isOdd = Integer.bitCount(bits & odd) % 2 == 1;
            same("cut", !isOdd ? 0 : least >= NEVER ? -2 : least, e.cut(bits));
            same("prove", i + 1, e.prove(bits, number));
            sum += isOdd ? number : 0;
            int due = sum;
            for (int s = m.streets - 1; s >= 0; s--) {
                due = borne[s] > m.lesser[s] ? -2 - s : due;
            }
            same("worth", due, e.worth());
        }
    }

    // ---- level

    static int levelLeast;
    static List<Integer> levelRow;

    static void levels() {
        for (int round = 0; round < 150; round++) {
            EveryStreet e = randomTown(3 + draw(2), 6, 5, false);
            shutSome(e);
            Map m = new Map(e);
            List<int[]> passes = new ArrayList<>();
            for (int a = 0; a < 12; a++) {
                for (int b = 0; b < 12; b++) {
                    if (m.go[a][b] < NEVER) {
                        passes.add(new int[] {a, b});
                    }
                }
            }
            levelLeast = NEVER;
            levelRow = new ArrayList<>();
            tryCounts(m, passes, new int[passes.size()], 0, 0);
            int got = e.level();
            same("level", levelLeast >= NEVER ? -2 : levelLeast, got);
            if (got >= 0) {
                same("level row", levelRow, row(e));
            }
        }
    }

    static void tryCounts(Map m, List<int[]> passes, int[] counts, int i, int sum) {
        if (sum > levelLeast) {
            return;
        }
        if (i == passes.size()) {
            judgeCounts(m, passes, counts, sum);
            return;
        }
        int most = passes.size() > 8 ? 3 : 4;
        for (int n = 0; n <= most; n++) {
            counts[i] = n;
            tryCounts(m, passes, counts, i + 1, sum + n * m.go[passes.get(i)[0]][passes.get(i)[1]]);
        }
        counts[i] = 0;
    }

    static void judgeCounts(Map m, List<int[]> passes, int[] counts, int sum) {
        int[] tilt = new int[12];
        int done = 0;
        int done0 = 0;
        for (int i = 0; i < counts.length; i++) {
            int a = passes.get(i)[0];
            int b = passes.get(i)[1];
            tilt[a] += counts[i];
            tilt[b] -= counts[i];
            int s = m.doneBy[a][b];
            if (counts[i] > 0 && s >= 0) {
                done |= 1 << s;
                done0 |= m.firstOf(s) == a ? 1 << s : 0;
            }
        }
        for (int t : tilt) {
            if (t != 0) {
                return;
            }
        }
        if (done != m.all()) {
            return;
        }
        List<Integer> due = new ArrayList<>();
        for (int s = 0; s < m.services; s++) {
            due.add((done0 >> s & 1) == 1 ? 0 : 1);
        }
        if (sum < levelLeast || before(due, levelRow)) {
            levelLeast = sum;
            levelRow = due;
        }
    }

    static boolean before(List<Integer> one, List<Integer> other) {
        for (int i = 0; i < one.size() && i < other.size(); i++) {
            if (!one.get(i).equals(other.get(i))) {
                return one.get(i) < other.get(i);
            }
        }
        return one.size() < other.size();
    }

    // ---- orders

    /** Each pass as two corners; the least way between, by walks that do nothing. */
    static int orderMinutes(Map m, List<int[]> order) {
        int sum = 0;
        int[] last = null;
        for (int[] p : order) {
            if (m.go[p[0]][p[1]] >= NEVER) {
                return NEVER;
            }
            int least = last == null ? m.go[p[0]][p[1]] : NEVER;
            if (last != null) {
                least = wayTo(m, last, p);
            }
            if (least >= NEVER) {
                return NEVER;
            }
            sum += least;
            last = p;
        }
        return sum;
    }

    static int wayTo(Map m, int[] from, int[] to) {
        int[][] dist = new int[12][12];
        for (int[] r : dist) {
            Arrays.fill(r, NEVER);
        }
        PriorityQueue<int[]> queue = new PriorityQueue<>((x, y) -> x[0] - y[0]);
        queue.add(new int[] {0, from[0], from[1]});
        boolean begun = false;
        while (!queue.isEmpty()) {
            int[] s = queue.poll();
            if (begun && s[0] > dist[s[1]][s[2]]) {
                continue;
            }
            begun = true;
            for (int c = 0; c < 12; c++) {
                if (c != s[2] && m.go[s[2]][c] < NEVER && m.turn[s[1]][s[2]][c] < NEVER) {
                    int d = s[0] + m.turn[s[1]][s[2]][c] + m.go[s[2]][c];
                    if (d < dist[s[2]][c]) {
                        dist[s[2]][c] = d;
                        queue.add(new int[] {d, s[2], c});
                    }
                }
            }
        }
        return dist[to[0]][to[1]];
    }

    static int[] passOf(EveryStreet e, int service, boolean back) {
        int s = e.service(service, 0);
        return back ? new int[] {e.street(s, 1), e.street(s, 0), service, 1}
                : new int[] {e.street(s, 0), e.street(s, 1), service, 0};
    }

    static boolean canBe(EveryStreet e, int service, boolean back) {
        int way = e.service(service, 1);
        return back ? way != 1 && e.street(e.service(service, 0), 3) >= 0 : way != 2;
    }

    static List<Integer> codes(List<int[]> order) {
        List<Integer> list = new ArrayList<>();
        for (int[] p : order) {
            list.add(2 * p[2] + p[3]);
        }
        return list;
    }

    static List<Integer> told(EveryStreet e) {
        List<Integer> list = new ArrayList<>();
        for (int i = 0; i < e.count(4); i++) {
            list.add(2 * e.pass(i, 0) + e.pass(i, 1));
        }
        return list;
    }

    static void orders() {
        for (int round = 0; round < 250; round++) {
            EveryStreet e = randomTown(3 + draw(4), 10, 6, true);
            if (round % 3 == 0) {
                shutSome(e);
            }
            Map m = new Map(e);
            List<int[]> order = new ArrayList<>();
            for (int i = 0; i < 12 && m.services > 0; i++) {
                int s = draw(m.services);
                boolean back = draw(2) == 0;
                boolean there = false;
                for (int[] p : order) {
                    there = there || p[2] == s;
                }
                int got = e.add(s, back);
                if (!there && canBe(e, s, back)) {
                    order.add(passOf(e, s, back));
                    same("add", order.size(), got);
                } else {
                    same("add refused", -1, got);
                }
            }
            int due = order.isEmpty() ? -1 : orderMinutes(m, order);
            same("order", due >= NEVER ? -2 : due, e.order());
            bettering(e, m, order);
            building(e, m);
        }
    }

    static void bettering(EveryStreet e, Map m, List<int[]> told) {
        List<int[]> order = told;
        int times = 0;
        int minutes = order.isEmpty() ? NEVER : orderMinutes(m, order);
        boolean going = minutes < NEVER;
        while (going) {
            List<List<int[]>> others = neighbours(e, order);
            List<int[]> finest = null;
            int least = minutes;
            for (List<int[]> other : others) {
                int n = orderMinutes(m, other);
                if (n < least) {
                    least = n;
                    finest = other;
                }
            }
            going = finest != null;
            if (going) {
                order = finest;
                minutes = least;
                times++;
            }
        }
        same("better", told.isEmpty() ? -1 : minutes >= NEVER ? -2 : times, e.better());
        same("better order", codes(order), told(e));
    }

    static List<List<int[]>> neighbours(EveryStreet e, List<int[]> order) {
        List<List<int[]>> all = new ArrayList<>();
        int n = order.size();
        for (int i = 0; i < n; i++) {
            for (int j = i + 1; j < n; j++) {
                List<int[]> other = new ArrayList<>(order);
                other.set(i, order.get(j));
                other.set(j, order.get(i));
                all.add(other);
            }
        }
        for (int i = 0; i < n; i++) {
            for (int j = i; j < n; j++) {
                List<int[]> other = new ArrayList<>(order.subList(0, i));
                boolean can = true;
                for (int k = j; k >= i; k--) {
                    int[] p = order.get(k);
                    can = can && canBe(e, p[2], p[3] == 0);
                    other.add(passOf(e, p[2], p[3] == 0));
                }
                other.addAll(order.subList(j + 1, n));
                if (can) {
                    all.add(other);
                }
            }
        }
        for (int i = 0; i < n; i++) {
            for (int j = 0; j < n; j++) {
                if (i != j) {
                    List<int[]> other = new ArrayList<>(order);
                    other.add(j, other.remove(i));
                    all.add(other);
                }
            }
        }
        return all;
    }

    static void building(EveryStreet e, Map m) {
        List<Integer> before = told(e);
        List<int[]> order = new ArrayList<>();
        int least = -1;
        for (int s = 0; s < m.services && least < NEVER; s++) {
            least = NEVER;
            List<int[]> finest = null;
            for (int place = 0; place <= order.size(); place++) {
                for (int back = 0; back < 2; back++) {
                    if (!canBe(e, s, back == 1)) {
                        continue;
                    }
                    List<int[]> other = new ArrayList<>(order);
                    other.add(place, passOf(e, s, back == 1));
                    int n = orderMinutes(m, other);
                    if (n < least) {
                        least = n;
                        finest = other;
                    }
                }
            }
            order = finest == null ? order : finest;
        }
        same("build", least >= NEVER ? -2 : least, e.build());
        same("build order", least >= NEVER || least < 0 ? before : codes(order), told(e));
    }

    // ---- carts, parts

    static void sharing() {
        for (int round = 0; round < 150; round++) {
            EveryStreet e = randomTown(3 + draw(3), 8, 5, true);
            Map m = new Map(e);
            int from = draw(4);
            int[] tours = new int[m.all() + 1];
            int[] heavy = new int[m.all() + 1];
            int cap = 1 + draw(8);
            for (int set = 0; set <= m.all(); set++) {
                Found f = leastWalk(m, -1, from, 0, set, from);
                int load = 0;
                for (int i = 0; i < m.services; i++) {
                    load += (set >> i & 1) * m.load[i];
                }
                tours[set] = f == null || load > cap ? NEVER : f.minutes;
                heavy[set] = weight(m, set);
            }
            int k = 1 + draw(4);
            for (int what = 0; what < 2; what++) {
                int due = divide(m, tours, k, what == 1);
                same("carts", due >= NEVER ? -2 : due, e.carts(from, k, cap, what));
                if (due < NEVER) {
                    same("carts row", dividedRow, row(e));
                }
            }
            int due = divide(m, heavy, k, true);
            same("parts", due >= NEVER ? -2 : due, e.parts(k));
            if (due < NEVER) {
                same("parts row", dividedRow, row(e));
            }
        }
    }

    static int weight(Map m, int set) {
        if (set == 0) {
            return NEVER;
        }
        int sum = 0;
        int corners = m.ends[m.streetOf[Integer.numberOfTrailingZeros(set)]];
        int hung = 0;
        for (int round = 0; round < 10; round++) {
            for (int i = 0; i < m.services; i++) {
                if ((set >> i & 1) == 1 && (m.ends[m.streetOf[i]] & corners) != 0) {
                    corners |= m.ends[m.streetOf[i]];
                    hung |= 1 << i;
                }
            }
        }
        for (int i = 0; i < m.services; i++) {
            sum += (set >> i & 1) * m.lesser[m.streetOf[i]];
            if (m.way[i] == 1 && (set >> i & 1) != (set >> i + 1 & 1)) {
                return NEVER;
            }
        }
        return hung == set ? sum : NEVER;
    }

    static List<Integer> dividedRow;

    static int divide(Map m, int[] costs, int k, boolean longest) {
        int best = NEVER;
        dividedRow = new ArrayList<>();
        int shares = 1;
        for (int i = 0; i < m.services; i++) {
            shares *= k;
        }
        for (int share = 0; share < shares; share++) {
            Integer[] sets = new Integer[k];
            Arrays.fill(sets, 0);
            int code = share;
            for (int i = 0; i < m.services; i++) {
                sets[code % k] |= 1 << i;
                code /= k;
            }
            int sum = 0;
            for (int set : sets) {
                sum = longest ? Math.max(sum, costs[set]) : Math.min(NEVER, sum + costs[set]);
            }
            if (sum < best || sum == best && sum < NEVER && before(List.of(sets), dividedRow)) {
                best = sum;
                dividedRow = List.of(sets);
            }
        }
        return best;
    }

    // ---- as many streets and services as can be

    static EveryStreet fullTown(boolean loose) {
        EveryStreet e = new EveryStreet();
        for (int tries = 0; tries < 400; tries++) {
            int a = tries < 12 ? tries : draw(12);
            int b = tries < 12 ? (tries + 1) % 12 : draw(12);
            String kind = new String[] {"", "!", "!$3", "=", ""}[draw(5)];
            boolean oneWay = loose && draw(5) == 0 && !kind.equals("=");
            tell(e, "" + (char) ('a' + a) + (oneWay ? '>' : '-') + (char) ('a' + b) + ":" + (1 + draw(6)) + kind);
        }
        for (int tries = 0; tries < 20; tries++) {
            String at = "" + (char) ('a' + draw(12)) + (char) ('a' + draw(12)) + (char) ('a' + draw(12));
            tell(e, tries % 3 == 0 ? "t" + at + ":" + draw(9) : "x" + at);
        }
        e.back(draw(5));
        for (int i = draw(6); i > 0; i--) {
            e.ahead(draw(10), draw(10));
        }
        return e;
    }

    static void fullSize() {
        for (int round = 0; round < 12; round++) {
            EveryStreet e = fullTown(round % 2 == 0);
            same("streets", 18, e.count(0));
            int from = draw(12);
            int best = e.best(from, from);
            List<Integer> walk = row(e);
            if (round < 3) {
                checkWalk(e, "full best", leastWalk(new Map(e), -1, from, 0, new Map(e).all(), from), best);
            }
            same("full some", best, e.some(from, (1 << e.count(1)) - 1));
            same("full carts", best, e.carts(from, 1, 99, 0));
            same("full soonest", best, e.soonest(from, 0));
            same("full bars", best >= 0, e.bars(from) == -2);
            same("full give", best >= 0, e.give(from) == 0);
            e.go(from);
            same("full rest", best, e.rest());
            if (best >= 0 && walk.size() <= 60) {
                for (int i = 1; i < walk.size(); i++) {
                    e.go(walk.get(i));
                }
                same("full judge", 0, e.judge());
                same("full judge row", List.of(best, (1 << e.count(1)) - 1), row(e));
                same("full timed", best, e.timed(0));
                same("full rest of all", 0, e.rest());
                same("level below best", true, e.level() <= best && e.level() >= 0);
                same("floor below best", true, e.floor() <= best);
            }
            cuts(e, new Map(e), e.count(8));
            fullCarts(e, from);
        }
    }

    static void fullCarts(EveryStreet e, int from) {
        Map m = new Map(e);
        int[] tours = new int[m.all() + 1];
        int cap = 8 + draw(8);
        for (int set = 0; set <= m.all(); set++) {
            int minutes = e.some(from, set);
            int load = 0;
            for (int i = 0; i < m.services; i++) {
                load += (set >> i & 1) * m.load[i];
            }
            tours[set] = minutes < 0 || load > cap ? NEVER : minutes;
        }
        for (int what = 0; what < 2; what++) {
            int due = divide(m, tours, 3, what == 1);
            same("full carts of 3", due >= NEVER ? -2 : due, e.carts(from, 3, cap, what));
            if (due < NEVER) {
                same("full carts row", dividedRow, row(e));
            }
        }
    }

    /** Without an argument always the same towns; with a number others. */
    public static void main(String[] args) {
        seed = args.length > 0 ? Long.parseLong(args[0]) : seed;
        walks();
        times();
        bounds();
        levels();
        orders();
        sharing();
        fullSize();
        System.out.println("OracleTests: " + checks + " checks, " + faults + " faults");
        if (faults > 0) {
            System.exit(1);
        }
    }
}
