import java.util.ArrayList;
import java.util.List;

/** Promises 40 to 46 at their bounds: cards, what is kept, the ROW. */
public final class CardBoundaryTests extends Bounds {
    // ---- promises 40 to 42: cards

    static void straightBounds() {
        start("40: refused for no CORNERS");
        full();
        for (int none : NO_CORNERS) {
            no(e.straight(none, 1, 2));
            no(e.straight(0, none, 2));
            if (none != -1) {
                no(e.straight(0, 1, none));
            }
        }
        start("40: refused without STREETS there, and back");
        tell("a-b:1;b>c:1;l>b:1");
        no(e.straight(0, 2, 1));
        no(e.straight(0, 1, 3));
        no(e.straight(0, 0, 1));
        no(e.straight(0, 1, 1));
        no(e.straight(0, 1, 0));
        no(e.straight(0, 2, -1));
        no(e.straight(0, 0, -1));
        yes(e.straight(0, 1, 2));
        yes(e.straight(2, 1, 11));
        yes(e.straight(11, 1, 0));
        yes(e.straight(11, 1, -1));
        hand("abc");
        is(0, e.card());
        no(e.straight(0, 1, 0));
        no(e.straight(0, 1, -2));
        no(e.straight(0, 1, 12));
        is(0, e.card());
        yes(e.straight(0, 1, 11));
        is(1, e.card());
        yes(e.straight(0, 1, 2));
        is(0, e.card());
        yes(e.straight(0, 1, -1));
        is(1, e.card());
        yes(e.straight(0, 1, -1));
        is(1, e.card());
    }

    static void cardBounds() {
        start("41: NONE without CORNERS, 0 with one and with two");
        is(-1, e.card());
        tell("a-b:1;a-c:1");
        e.best(5, 5);
        is(-1, e.card());
        rowIs(5);
        hand("a");
        is(0, e.card());
        rowIs();
        hand("ab");
        is(0, e.card());
        rowIs();
        hand("aba");
        is(1, e.card());
        rowIs(0, 1, 0);
        handOf(60, "ab");
        is(2, e.card());
        rowIs(0, 1, 0, 1, 0, 1);
        start("41: -2 - i: the first place that there can be, and the last");
        tell("a-b:1;a-c:1;b-c:1");
        hand("ababc");
        is(-2 - 3, e.card());
        hand("abac");
        is(2, e.card());
        handOf(59, "ab");
        is(60, e.go(2));
        is(-2 - 58, e.card());
        is(-1, e.mislead(0));
        yes(e.undo(59));
        is(2, e.card());
        is(1, e.mislead(0));
    }

    static final String[] LONGEST_CARD = {"a-b:1;b-c:1;c-d:1;d-e:1;e-f:1;f-g:1;g-h:1;h-i:1",
        "i-j:1;j-k:1;k-l:1;a-l:1;a-c:1;a-d:1;a-e:1;a-f:1", "a-g:1;a-h:1"};

    static boolean[][] streetsOfLongestCard() {
        boolean[][] streets = new boolean[12][12];
        for (String text : LONGEST_CARD) {
            for (String item : text.split(";")) {
                int a = item.charAt(0) - 'a';
                int b = item.charAt(2) - 'a';
                streets[a][b] = true;
                streets[b][a] = true;
            }
        }
        return streets;
    }

    /** A round that goes each street once each way: of each pass in turn the next that was not gone. */
    static List<Integer> roundOfAllPasses() {
        List<Integer> stack = new ArrayList<>(List.of(0));
        List<Integer> round = new ArrayList<>();
        boolean[][] left = streetsOfLongestCard();
        while (!stack.isEmpty()) {
            int at = stack.get(stack.size() - 1);
            int to = 0;
            while (to < 12 && !left[at][to]) {
                to++;
            }
            if (to < 12) {
                left[at][to] = false;
                stack.add(to);
            } else {
                round.add(stack.remove(stack.size() - 1));
            }
        }
        return round;
    }

    static void longestCard() {
        start("41: a WORD for each of 36 PASSES");
        for (String text : LONGEST_CARD) {
            tell(text);
        }
        is(18, e.count(0));
        List<Integer> round = roundOfAllPasses();
        is(37, round.size());
        round.add(round.get(1));
        for (int i = 0; i < 38; i++) {
            is(i + 1, e.go(round.get(i)));
        }
        is(36, e.card());
        is(108, e.count(6));
        for (int i = 0; i < 108; i++) {
            is(round.get(i / 3 + i % 3), e.row(i));
        }
        for (int i = 0; i < 36; i++) {
            is(i + 1, e.mislead(i));
        }
        is(-1, e.mislead(36));
    }

    static void misleadBounds() {
        start("42: NONE for no WORD, for no CARD");
        int[] none = {-1, -2, 256, MIN, MAX};
        is(-1, e.mislead(0));
        tell("a-b:1;a-c:1;b-c:1");
        is(-1, e.mislead(0));
        hand("a");
        is(-1, e.mislead(0));
        hand("ab");
        is(-1, e.mislead(0));
        hand("abc");
        is(1, e.mislead(0));
        is(-1, e.mislead(1));
        for (int i : none) {
            is(-1, e.mislead(i));
        }
        yes(e.straight(0, 1, 2));
        is(-1, e.mislead(0));
        hand("ababc");
        is(-1, e.mislead(0));
        handOf(60, "ab");
        is(1, e.mislead(0));
        is(2, e.mislead(1));
        is(-1, e.mislead(2));
    }

    // ---- promises 43 to 46: kept

    static void keepNumbers() {
        start("43: numbers 0 .. 2; others are refused");
        int[] others = {-1, 3, 4, 32, 256, MIN, MAX};
        for (int i : others) {
            no(e.keep(i));
            no(e.again(i));
        }
        for (int i = 0; i < 3; i++) {
            no(e.again(i));
        }
        for (int i = 0; i < 3; i++) {
            e.back(10 * (i + 1));
            yes(e.keep(i));
            for (int j = 0; j < 3; j++) {
                if (j > i) {
                    no(e.again(j));
                }
            }
        }
        for (int i : others) {
            no(e.keep(i));
            no(e.again(i));
        }
        for (int round = 0; round < 2; round++) {
            for (int i = 2; i >= 0; i--) {
                yes(e.again(i));
                is(10 * (i + 1), e.count(2));
            }
        }
    }

    static void keptEmpty() {
        start("44: kept empty, it is empty again");
        tell("a-b:10!;b-c:1");
        yes(e.keep(1));
        hand("ab");
        e.add(0, true);
        e.prove(1, 1);
        e.shut(1, true);
        e.busy(2, 24, 400, 0);
        e.open(0, 5, 5);
        e.straight(0, 1, 2);
        e.back(9);
        e.judge();
        yes(e.again(1));
        int[] due = {2, 1, 0, 0, 0, 0, 2, 0, 3, 0, 0};
        for (int what = 0; what <= 10; what++) {
            is(due[what], e.count(what));
        }
        hand("abc");
        is(11, e.timed(0));
        is(1440, e.timed(1429));
        is(1, e.card());
        is(-1, e.order());
        is(0, e.worth());
    }

    static void keptFull() {
        start("44: kept full, it is full again, as often as wanted");
        full();
        handOf(60, "ab");
        for (int i = 0; i < 10; i++) {
            is(i + 1, e.add(9 - i, true));
        }
        for (int i = 0; i < 12; i++) {
            is(i + 1, e.prove(1024, i == 11 ? 10 : 9));
        }
        for (int s = 0; s < 18; s++) {
            yes(e.shut(s, true));
        }
        e.back(99);
        yes(e.keep(2));
        for (int round = 0; round < 2; round++) {
            e.undo(0);
            e.go(11);
            e.drop();
            e.prove(1, 1);
            e.back(0);
            for (int s = 0; s < 18; s++) {
                yes(e.shut(s, false));
            }
            is(10, e.build());
            yes(e.again(2));
            is(60, e.count(3));
            is(10, e.count(4));
            is(12, e.count(10));
            is(18, e.count(9));
            is(99, e.count(2));
            is(9, e.pass(0, 0));
            is(0, e.pass(9, 0));
            is(1, e.pass(9, 1));
            is(-2 - 17, e.worth());
            is(0, e.judge());
            rowIs(59 + 58 * 99, 1);
            is(-1, e.go(0));
            is(-1, e.prove(0, 1));
        }
    }

    static void keptHands() {
        start("44: THE HAND's PASSES are as they were");
        tell("a-b:1/2!;b-c:10;c-a:30");
        hand("abc");
        yes(e.keep(0));
        hand("cba");
        yes(e.keep(1));
        hand("acb");
        yes(e.again(0));
        is(0, e.judge());
        rowIs(11, 1);
        is(11, e.timed(0));
        is(12, e.rest());
        yes(e.again(1));
        is(0, e.judge());
        rowIs(12, 1);
        yes(e.again(0));
        is(0, e.judge());
        rowIs(11, 1);
        yes(e.undo(2));
        is(3, e.go(0));
        is(0, e.judge());
        rowIs(3, 1);
    }

    static void keptProofs() {
        start("44: all 12 CUTS of THE PROOF are as they were");
        tell("a-b:99!");
        for (int i = 1; i <= 12; i++) {
            is(i, e.prove(i == 12 ? 2 : 1, i));
        }
        is(78, e.worth());
        yes(e.keep(1));
        is(12, e.drop());
        for (int i = 1; i <= 12; i++) {
            is(i, e.prove(3, 99));
        }
        is(0, e.worth());
        yes(e.again(1));
        is(78, e.worth());
        is(12, e.drop());
    }

    static void keptToTheLast() {
        start("44: the last STREET, CORNERS and hour are as they were");
        tell("a-b:1!;b-c:1!;c-d:1!;d-e:1!;e-f:1!;f-g:1!;g-h:1!;h-i:1!");
        tell("i-j:1!;j-a:1!;a-c:9;a-d:9;a-e:9;a-f:9;a-g:9;a-h:9");
        is(2, tell("j-l:9;l-k:9"));
        handOf(60, "ac");
        is(32 * 24 + 3 * 276, e.busy(2, 24, 32, 3));
        yes(e.open(17, 1380, 1380));
        yes(e.straight(9, 11, 10));
        yes(e.straight(10, 11, 9));
        yes(e.keep(0));
        hand("lkl");
        is(-3, e.busy(3, 0, 0, 0));
        yes(e.open(17, 0, 1439));
        yes(e.straight(9, 11, -1));
        yes(e.straight(10, 11, -1));
        yes(e.again(0));
        is(0, e.judge());
        rowIs(531, 0);
        hand("lk");
        is(1380 + 10, e.timed(0));
        rowIs(1380);
        is(-2, e.timed(1381));
        hand("jlk");
        is(0, e.card());
        hand("klj");
        is(0, e.card());
    }

    static void keptOnlyTillTold() {
        start("44: refused after a town(), till it is kept anew");
        tell("a-b:1");
        for (int i = 0; i < 3; i++) {
            yes(e.keep(i));
        }
        is(1, tell("xabc"));
        for (int i = 0; i < 3; i++) {
            no(e.again(i));
        }
        e.back(5);
        yes(e.keep(1));
        no(e.again(0));
        no(e.again(2));
        e.back(6);
        yes(e.again(1));
        is(5, e.count(2));
    }

    static void keepsNoRowAndNoText() {
        start("44: the ROW, THE TEXT and AHEAD are as they are");
        tell("a-b:1!;b-c:1!");
        e.sign(0);
        e.best(0, 0);
        yes(e.keep(0));
        e.sign(0);
        is(0, e.some(7, 0));
        yes(e.ahead(1, 0));
        yes(e.again(0));
        is(8, e.count(7));
        rowIs(7);
        is(2, e.service(0, 3));
    }

    static void countBounds() {
        start("45: NONE for another what");
        int[] others = {-1, 11, 12, 32, 256, MIN, MAX};
        for (int what : others) {
            is(-1, e.count(what));
        }
        start("45: all as many as there can be");
        longRing();
        is(6, tell("a-c:1;a-d:1;a-e:1;a-f:1;a-g:1;a-h:1"));
        is(2, tell("tabc:0;xlkl"));
        e.back(99);
        handOf(60, "ac");
        for (int i = 0; i < 10; i++) {
            is(i + 1, e.add(i, false));
        }
        for (int i = 0; i < 12; i++) {
            e.prove(0, 1);
        }
        for (int i = 0; i < 25; i++) {
            e.sign(0);
        }
        e.best(0, 0);
        int least = e.count(6);
        for (int s = 0; s < 18; s++) {
            e.shut(s, true);
        }
        int[] due = {18, 10, 99, 60, 10, 2, least, 100, 0, 18, 12};
        due[8] = 1 | 1 << 8 | 1 << 9 | 1 << 11;
        for (int what = 0; what <= 10; what++) {
            is(due[what], e.count(what));
        }
        for (int what : others) {
            is(-1, e.count(what));
        }
    }

    static void rowBounds() {
        int[] never = {-1, 120, 121, 256, MIN, MAX};
        start("46: NoSuchElementException, where the ROW has no such number");
        yes(noRow(0));
        for (int i : never) {
            yes(noRow(i));
        }
        is(0, e.best(11, 11));
        is(11, e.row(0));
        yes(noRow(1));
        for (int i : never) {
            yes(noRow(i));
        }
        is(11, e.row(0));
        start("46: a ROW of 120");
        longRing();
        is(120, e.best(0, 0));
        is(0, e.row(0));
        is(11, e.row(119));
        for (int i : never) {
            yes(noRow(i));
        }
        is(11, e.row(119));
        is(120, e.count(6));
        start("46: a shorter ROW has none of the numbers told ahead of it");
        longRing();
        is(120, e.best(0, 0));
        is(0, e.some(7, 0));
        rowIs(7);
        yes(noRow(1));
        yes(noRow(119));
    }

    public static void main(String[] args) {
        straightBounds();
        cardBounds();
        longestCard();
        misleadBounds();
        keepNumbers();
        keptEmpty();
        keptFull();
        keptHands();
        keptProofs();
        keptToTheLast();
        keptOnlyTillTold();
        keepsNoRowAndNoText();
        countBounds();
        rowBounds();
        finish("CardBoundaryTests");
    }
}
