/** Promises 12 to 20 at their bounds: lines, pairs, cuts, proofs, LEVEL. */
public final class LineBoundaryTests extends Bounds {
    static void lineWithoutServices() {
        start("12: 0, if there are no SERVICES: the ROW stays");
        is(0, e.line());
        rowIs();
        tell("a-b:2");
        is(2, e.best(0, 1));
        rowIs(0, 1);
        is(0, e.line());
        rowIs(0, 1);
    }

    static void leastLines() {
        start("12: one STREET each way");
        tell("k-l:9=");
        is(2, e.line());
        rowIs(10, 11, 10);
        start("12: one STREET alone has no ROUND");
        tell("l-k:9!");
        is(-2, e.line());
        rowIs(10, 11);
        start("12: one STREET that way alone has none");
        tell("k>l:9!");
        is(-2, e.line());
        rowIs(10, 11);
    }

    static void lineWithTenServices() {
        start("12: THE LINE of 10 PASSES, whatever TURNS, AHEAD and SHUT");
        full();
        is(10, e.line());
        rowIs(0, 1, 2, 3, 4, 5, 6, 7, 8, 9, 0);
        tell("xabc;xjab");
        yes(e.ahead(9, 0));
        for (int s = 0; s < 18; s++) {
            yes(e.shut(s, true));
        }
        e.best(5, 5);
        is(10, e.line());
        rowIs(0, 1, 2, 3, 4, 5, 6, 7, 8, 9, 0);
    }

    static void noLine() {
        start("12: -2: the ROW is empty, if no CORNER is ODD");
        tell("a-b:1=;c-d:1=");
        e.best(0, 0);
        is(-2, e.line());
        rowIs();
        is(0, e.count(8));
        start("12: -2: the ROW: all 12 CORNERS, if all are ODD");
        tell("a-b:1!;c-d:2!;e-f:3!;g-h:4!;i-j:5!;k-l:6!");
        is(-2, e.line());
        rowIs(0, 1, 2, 3, 4, 5, 6, 7, 8, 9, 10, 11);
        is(4095, e.count(8));
        start("12: -2 against one way, with none ODD");
        tell("a>b:1!;b>c:1!;a>c:1!");
        is(-2, e.line());
        rowIs();
    }

    static void farBounds() {
        start("13: FAR 0 from a CORNER to itself, NONE with no way");
        for (int a = 0; a < 12; a++) {
            for (int b = 0; b < 12; b++) {
                is(a == b ? 0 : -1, e.far(a, b));
            }
        }
        for (int none : NO_CORNERS) {
            is(-1, e.far(none, 0));
            is(-1, e.far(0, none));
            is(-1, e.far(none, none));
        }
        start("13: the longest FAR");
        is(8, tell("a>b:99;b>c:99;d>c:99;d>e:99;e-f:99;f-g:99;g-h:99;h-i:99"));
        is(-1, e.far(0, 9));
        is(3, tell("i-j:99;j-k:99;l>k:99"));
        is(1089, e.far(0, 11));
        is(1089, e.far(11, 0));
        for (int s = 0; s < 11; s++) {
            e.shut(s, true);
        }
        is(1089, e.far(0, 11));
        is(99, e.far(11, 10));
    }

    static void pairBounds() {
        start("14: none ODD: 0, and no numbers");
        e.best(0, 0);
        is(0, e.pair());
        rowIs();
        tell("a-b:1=;b-c:2");
        is(0, e.pair());
        rowIs();
        start("14: two ODD, the least and the greatest CORNER");
        tell("l-a:7/6!");
        is(6, e.pair());
        rowIs(0, 11);
        start("14: all 12 ODD");
        tell("a-b:1!;c-d:2!;e-f:3!;g-h:4!;i-j:5!;k-l:6!");
        is(21, e.pair());
        rowIs(0, 1, 2, 3, 4, 5, 6, 7, 8, 9, 10, 11);
        tell("b-c:1");
        is(21, e.pair());
        start("14: all 12 ODD, crosswise");
        tell("a-l:99!;b-k:99!;c-j:99!;d-i:99!;e-h:99!;f-g:99!");
        tell("a-b:1;c-d:1;e-f:1;g-h:1;i-j:1;k-l:1");
        is(6, e.pair());
        rowIs(0, 1, 2, 3, 4, 5, 6, 7, 8, 9, 10, 11);
    }

    static void pairsOfEqualSums() {
        start("14: of equal sums the first row");
        tell("a-b:1!;c-d:1!;a-c:1;b-d:1;a-d:1;b-c:1");
        is(2, e.pair());
        rowIs(0, 1, 2, 3);
        start("14: of equal sums the first row, one minute less is ahead");
        tell("a-b:2!;c-d:2!;a-c:2;b-d:2;a-d:2;b-c:1");
        is(3, e.pair());
        rowIs(0, 3, 1, 2);
    }

    static void floorBounds() {
        start("15: FLOOR 0 without SERVICES");
        is(0, e.floor());
        tell("a-b:99");
        is(0, e.floor());
        start("15: one SERVICE alone");
        tell("a-b:99/1!");
        is(2, e.floor());
        start("15: 10 SERVICES of 99, two CORNERS ODD");
        tell("a-b:99!;b-c:99!;c-d:99!;d-e:99!;e-f:99!;f-g:99!;g-h:99!");
        tell("h-i:99!;i-j:99!;j-k:99!");
        is(1980, e.floor());
        is(990, e.pair());
        start("15: 10 SERVICES each way, none ODD");
        tell("a-b:99=;b-c:99=;c-d:99=;d-e:99=;e-f:99/98=");
        is(8 * 99 + 2 * 98, e.floor());
    }

    static void cutBounds() {
        start("16: NONE for bits that are not CORNERS");
        tell("a-b:5/3!;b-c:2;c>d:9;k-l:99!");
        for (int bits : NO_SETS_OF_CORNERS) {
            is(-1, e.cut(bits));
        }
        is(0, e.cut(0));
        is(0, e.cut(4095));
        is(3, e.cut(1));
        is(3, e.cut(4094));
        is(99, e.cut(2048));
        is(99, e.cut(2047));
        is(0, e.cut(4));
        is(0, e.cut(3));
        is(0, e.cut(1 | 2048));
        is(2, e.cut(2 | 1024 | 2048));
        is(3, e.cut(1 | 1024 | 2048));
        start("16: 0 in a new object");
        is(0, e.cut(0));
        is(0, e.cut(4095));
        is(-1, e.cut(4096));
    }

    static void proveBounds() {
        start("17: bits 0 .. 4095 and NUMBER 1 .. 99; others are refused");
        int[] numbers = {0, -1, 100, 101, 256, 65536 + 1, MIN, MAX};
        for (int bits : NO_SETS_OF_CORNERS) {
            is(-1, e.prove(bits, 1));
            is(-1, e.prove(bits, 99));
            is(-1, e.prove(bits, 0));
        }
        for (int number : numbers) {
            is(-1, e.prove(0, number));
            is(-1, e.prove(4095, number));
        }
        is(0, e.count(10));
        is(1, e.prove(0, 1));
        is(2, e.prove(0, 99));
        is(3, e.prove(4095, 1));
        is(4, e.prove(4095, 99));
    }

    static void twelveCuts() {
        start("17: at most 12 CUTS");
        tell("a-b:13!");
        for (int i = 1; i <= 12; i++) {
            is(i, e.prove(1, 1));
        }
        is(-1, e.prove(1, 1));
        is(-1, e.prove(0, 1));
        is(-1, e.prove(4096, 1));
        is(12, e.count(10));
        is(12, e.worth());
        is(12, e.drop());
        is(1, e.prove(1, 13));
        is(13, e.worth());
    }

    static void worthBounds() {
        start("18: an empty PROOF is worth 0");
        is(0, e.worth());
        full();
        is(0, e.worth());
        start("18: a STREET may bear its lesser MINUTES, but no more");
        tell("a-b:99/7!");
        e.prove(1, 7);
        is(7, e.worth());
        e.prove(2, 1);
        is(-2, e.worth());
        start("18: 99 at most, in one CUT or in many");
        tell("k-l:99!");
        e.prove(1024, 99);
        is(99, e.worth());
        e.prove(1024, 1);
        is(-2, e.worth());
        e.drop();
        for (int i = 0; i < 11; i++) {
            e.prove(2048, 9);
        }
        is(99, e.worth());
        e.prove(1024 | 2048, 99);
        is(99, e.worth());
        start("18: the last STREET");
        full();
        e.prove(1024, 9);
        is(0, e.worth());
        e.prove(2048, 1);
        is(-2 - 17, e.worth());
        e.prove(1, 2);
        is(-2, e.worth());
    }

    static void dropBounds() {
        start("19: THE PROOF is empty then, also if it was");
        is(0, e.drop());
        is(0, e.drop());
        e.prove(0, 1);
        is(1, e.drop());
        is(0, e.count(10));
        for (int i = 0; i < 12; i++) {
            e.prove(0, 1);
        }
        is(12, e.drop());
        is(0, e.drop());
        is(0, e.count(10));
    }

    static void levelBounds() {
        start("20: LEVEL 0 without SERVICES: no numbers");
        e.best(0, 0);
        is(0, e.level());
        rowIs();
        start("20: one SERVICE, there and back");
        tell("a-b:99!");
        is(198, e.level());
        rowIs(0);
        start("20: 10 SERVICES each way");
        tell("a-b:99=;b-c:99=;c-d:99=;d-e:99=;e-f:99=");
        is(990, e.level());
        rowIs(0, 1, 0, 1, 0, 1, 0, 1, 0, 1);
        start("20: 10 SERVICES that nothing brings back but themselves");
        tell("a-b:9!;b-c:9!;c-d:9!;d-e:9!;e-f:9!;f-g:9!;g-h:9!;h-i:9!");
        tell("i-j:9!;j-k:9!");
        is(180, e.level());
        rowIs(0, 0, 0, 0, 0, 0, 0, 0, 0, 0);
        start("20: of equal ones the first row");
        tell("a-b:1!;c-b:1!;c-a:1!");
        is(3, e.level());
        rowIs(0, 1, 0);
        start("20: of equal ones the first row, not if back is less");
        tell("a-b:2/1!;b-c:1!;a-c:1!");
        is(3, e.level());
        rowIs(1, 1, 0);
    }

    static void firstRowsOfLevel() {
        String[] towns = {"a-b:1!;c-b:1!;a-c:1!", "a-b:1!;d-e:1=;c-b:1!;a-c:1!", "d-e:1=;a-b:1!;c-b:1!;a-c:1!",
            "a-b:1!;c-b:1!;d-e:1=;a-c:1!", "a-b:1!;c-b:1!;a-c:1!;d-e:1=",
            "a-b:1!;c-b:1!;d>e:1!;e>f:1!;f>d:1;a-c:1!"};
        int[][] rows = {{0, 1, 1}, {0, 0, 1, 1, 1}, {0, 1, 0, 1, 1}, {0, 1, 0, 1, 1}, {0, 1, 1, 0, 1},
            {0, 1, 0, 0, 1}};
        for (int i = 0; i < towns.length; i++) {
            start("20: of equal ones the first row, " + towns[i]);
            tell(towns[i]);
            is(i == 0 ? 3 : i == 5 ? 6 : 5, e.level());
            rowIs(rows[i]);
        }
        start("20: of equal ones the first row, two rings");
        tell("a-b:1!;c-b:1!;a-c:1!;d-e:1!;f-e:1!;d-f:1!");
        is(6, e.level());
        rowIs(0, 1, 1, 0, 1, 1);
    }

    static void noLevel() {
        start("20: -2, if it can't be: the ROW stays");
        full();
        is(10, e.level());
        yes(e.shut(9, true));
        e.best(0, 0);
        is(-2, e.level());
        start("20: -2 that way alone, till a way back is told");
        tell("a>b:1!");
        is(-2, e.level());
        rowIs();
        tell("b>c:1;c>a:1");
        is(3, e.level());
        rowIs(0);
        e.shut(2, true);
        is(-2, e.level());
        rowIs(0);
    }

    public static void main(String[] args) {
        lineWithoutServices();
        leastLines();
        lineWithTenServices();
        noLine();
        farBounds();
        pairBounds();
        pairsOfEqualSums();
        floorBounds();
        cutBounds();
        proveBounds();
        twelveCuts();
        worthBounds();
        dropBounds();
        levelBounds();
        firstRowsOfLevel();
        noLevel();
        finish("LineBoundaryTests");
    }
}
