/** Promises 21 to 24 at their bounds: walks; and 512 calls of one object. */
public final class WalkBoundaryTests extends Bounds {
    // ---- promises 21 to 24: walks

    static void bestBounds() {
        start("21: without SERVICES one may stay");
        for (int a = 0; a < 12; a++) {
            is(0, e.best(a, a));
            rowIs(a);
        }
        is(-2, e.best(0, 11));
        is(-2, e.best(11, 0));
        rowIs(11);
        for (int none : NO_CORNERS) {
            is(-1, e.best(none, 0));
            is(-1, e.best(0, none));
            is(-1, e.best(none, none));
            is(-1, e.some(none, 0));
            is(-1, e.bars(none));
            is(-1, e.give(none));
        }
        rowIs(11);
    }

    static void rowOf120() {
        start("21: the ROW: the first 120 CORNERS");
        longRing();
        is(118, e.best(0, 10));
        is(119, e.count(6));
        is(10, e.row(118));
        yes(noRow(119));
        is(119, e.best(0, 11));
        is(120, e.count(6));
        is(11, e.row(119));
        yes(noRow(120));
        is(120, e.best(0, 0));
        is(120, e.count(6));
        for (int i = 0; i < 120; i++) {
            is(i % 12, e.row(i));
        }
        yes(noRow(120));
        is(0, e.some(0, 0));
        is(1, e.count(6));
        is(120, e.some(0, 1023));
        is(120, e.count(6));
        is(11, e.row(119));
        yes(noRow(120));
    }

    static void rowsLongerThan120() {
        start("21: the ROW: the first 120 of 122 CORNERS");
        longRing();
        is(121, e.best(11, 0));
        is(120, e.count(6));
        for (int i = 0; i < 120; i++) {
            is((i + 11) % 12, e.row(i));
        }
        yes(noRow(120));
        hand("l");
        is(120, e.rest());
        is(120, e.count(6));
        is(10, e.row(119));
    }

    static void firstRowOfEqualOnes() {
        start("21: of equal ones the first; one minute less is ahead of it");
        tell("a-l:1!;l-b:1;l-c:1;b-k:1;c-k:1;k-a:2");
        is(2, e.best(0, 0));
        rowIs(0, 11, 0);
        is(3, e.best(0, 10));
        rowIs(0, 11, 1, 10);
        tell("talb:1");
        is(3, e.best(0, 10));
        rowIs(0, 11, 2, 10);
        tell("talc:1");
        is(4, e.best(0, 10));
        rowIs(0, 11, 0, 10);
    }

    static void someBounds() {
        start("22: NONE, if they are not bits of SERVICES");
        tell("a-b:2!;b-c:3=;c-a:4");
        int[] others = {8, 9, 15, 16, 1 << 10, 1 << 30, -1, -8, MIN, MIN + 1, MAX};
        for (int bits : others) {
            is(-1, e.some(0, bits));
        }
        is(0, e.some(0, 0));
        is(4, e.some(0, 1));
        is(2 + 3 + 3 + 2, e.some(0, 7));
        is(-2, e.some(11, 1));
        is(0, e.some(11, 0));
        rowIs(11);
        start("22: bits of no SERVICES, and of ten");
        is(0, e.some(11, 0));
        is(-1, e.some(0, 1));
        full();
        is(10, e.some(0, 1023));
        is(2, e.some(0, 512));
        is(-1, e.some(0, 1024));
        is(-1, e.some(0, 2047));
        is(-1, e.some(0, 1024 | 1));
        is(-2, e.some(10, 1));
    }

    static void barsBounds() {
        start("23: -2 without SERVICES, from each CORNER");
        for (int a = 0; a < 12; a++) {
            is(-2, e.bars(a));
        }
        start("23: the least CORNER");
        tell("a>b:1!;b>c:1!;c>a:1!;xcab");
        is(-2, e.bars(0));
        is(0, e.bars(1));
        is(0, e.bars(2));
        is(-1, e.bars(11));
        start("23: the greatest CORNER");
        tell("j>k:1!;k>l:1!;l>j:1!;xklj");
        is(11, e.bars(9));
        is(11, e.bars(10));
        is(-2, e.bars(11));
        is(-1, e.bars(0));
        start("23: the first of two, and NONE of two that bar together");
        tell("a>b:1!;b>c:1!;c-d:1!;d-b:9;d-a:1;xabc;xabd;xbcd");
        is(-1, e.bars(0));
        tell("tbcd:0");
        is(1, e.bars(0));
    }

    static void barsWithTenServices() {
        start("23: ten SERVICES, the last one AHEAD of all others");
        longRing();
        for (int a = 0; a < 12; a++) {
            is(-2, e.bars(a));
        }
        tell("xlab");
        is(0, e.bars(11));
        is(0, e.bars(1));
        is(-2, e.best(0, 0));
    }

    static void doneByPassesAhead() {
        start("21: AHEAD: done by PASSES ahead of this one, also on one STREET");
        tell("a-b:1=");
        is(2, e.best(0, 0));
        yes(e.ahead(1, 0));
        is(4, e.best(0, 0));
        rowIs(0, 1, 0, 1, 0);
        is(2, e.best(1, 1));
        is(4, e.some(0, 3));
        is(2, e.some(0, 1));
        is(0, e.give(0));
        hand("aba");
        is(0, e.judge());
        rowIs(2, 2);
        is(2, e.rest());
        rowIs(0, 1, 0);
    }

    /** Each change between is seen by the next answer. */
    static void walksAreAskedAnew() {
        start("21: what BACK, SHUT, again() and town() change is seen at once");
        tell("a-b:2!;b-c:3;c-a:4;c-d:1!");
        is(2 + 3 + 1 + 1 + 4, e.best(0, 0));
        yes(e.keep(0));
        is(0, e.back(99));
        is(2 + 3 + 1 + 99 + 1 + 4, e.best(0, 0));
        is(99 + 11, e.soonest(0, 0));
        yes(e.shut(1, true));
        is(2 + 99 + 2 + 4 + 1 + 99 + 1 + 4, e.best(0, 0));
        yes(e.shut(2, true));
        is(-2, e.best(0, 0));
        is(2 + 2 + 1 + 1, e.level());
        yes(e.again(0));
        is(11, e.best(0, 0));
        is(1, tell("xcdc"));
        is(-2, e.best(0, 0));
        is(3, e.bars(2));
        is(1, tell("tcdc:50"));
        is(61, e.best(0, 0));
        is(1, tell("d-a:20"));
        is(2 + 3 + 1 + 20, e.best(0, 0));
    }

    static void giveBounds() {
        start("24: none given up: 0, the ROW: 0");
        for (int a = 0; a < 12; a++) {
            is(0, e.give(a));
            rowIs(0);
        }
        start("24: all ten given up");
        full();
        is(0, e.give(0));
        rowIs(0);
        is(10, e.give(10));
        rowIs(1023);
        is(10, e.give(11));
        rowIs(1023);
        e.shut(9, true);
        is(1, e.give(0));
        rowIs(512);
        start("24: of as few the least");
        tell("a-b:1!;a-c:1!;xbac;xcab");
        is(1, e.give(0));
        rowIs(1);
        is(1, e.give(1));
        rowIs(2);
    }

    // ---- what it is

    static int calls;

    static void due(int due, int got) {
        calls++;
        is(due, got);
    }

    static void fiveHundredTwelveCalls() {
        start("an object is used for at most 512 calls: the last answers as the first");
        full();
        calls = 16 + 15 + 5;
        while (calls <= 500) {
            due(10, e.best(0, 0));
            due(10, e.level());
            due(10, e.carts(0, 4, 99, 0));
            due(3, e.parts(4));
            due(10, e.soonest(0, 0));
            due(10, e.build());
            due(0, e.better());
            due(0, e.give(0));
            due(-2, e.bars(0));
            due(10, e.line());
            due(0, e.pair());
        }
        while (calls < 512) {
            due(10, e.best(0, 0));
        }
    }

    public static void main(String[] args) {
        bestBounds();
        rowOf120();
        rowsLongerThan120();
        firstRowOfEqualOnes();
        someBounds();
        barsBounds();
        barsWithTenServices();
        doneByPassesAhead();
        walksAreAskedAnew();
        giveBounds();
        fiveHundredTwelveCalls();
        finish("WalkBoundaryTests");
    }
}
