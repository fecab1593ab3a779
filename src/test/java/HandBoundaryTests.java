/** Promises 25 to 32 at their bounds: THE HAND and TIME. */
public final class HandBoundaryTests extends Bounds {
    // ---- promises 25 to 32: by hand

    static void goBounds() {
        start("25: THE HAND begins at any CORNER, at no other");
        for (int none : NO_CORNERS) {
            is(-1, e.go(none));
        }
        is(0, e.count(3));
        for (int a = 0; a < 12; a++) {
            is(1, e.go(a));
            for (int b = 0; b < 12; b++) {
                is(-1, e.go(b));
            }
            yes(e.undo(0));
        }
        start("25: refused without a PASS, against one way, SHUT, where one is");
        tell("a>l:1;l-k:1");
        hand("al");
        for (int none : NO_CORNERS) {
            is(-1, e.go(none));
        }
        is(-1, e.go(0));
        is(-1, e.go(11));
        is(-1, e.go(1));
        e.shut(1, true);
        is(-1, e.go(10));
        is(2, e.count(3));
        e.shut(1, false);
        is(3, e.go(10));
    }

    static void sixtyCorners() {
        start("25: at most 60 CORNERS");
        tell("a-b:1!;a-c:1");
        handOf(59, "ab");
        is(60, e.go(1));
        is(-1, e.go(0));
        is(-1, e.go(12));
        is(-1, e.go(-1));
        is(60, e.count(3));
        yes(e.undo(59));
        is(60, e.go(2));
        is(-1, e.go(0));
        is(0, e.judge());
        rowIs(59, 1);
    }

    static void undoBounds() {
        start("26: an empty HAND has its first 0 CORNERS alone");
        int[] never = {-1, 61, 256, MIN, MAX};
        yes(e.undo(0));
        no(e.undo(1));
        for (int n : never) {
            no(e.undo(n));
        }
        tell("a-b:1!");
        handOf(60, "ab");
        for (int n : never) {
            no(e.undo(n));
        }
        is(60, e.count(3));
        yes(e.undo(60));
        is(60, e.count(3));
        yes(e.undo(59));
        no(e.undo(60));
        is(59, e.count(3));
        yes(e.undo(1));
        no(e.undo(2));
        is(1, e.count(3));
        yes(e.undo(0));
        no(e.undo(1));
        is(0, e.count(3));
        is(-1, e.judge());
    }

    static void judgeBounds() {
        start("27: NONE without CORNERS, 0 with one and with two");
        is(-1, e.judge());
        tell("a-b:99!;a-c:99;xaba;tbab:99;taba:99");
        is(-1, e.judge());
        rowIs();
        hand("a");
        is(0, e.judge());
        rowIs(0, 0);
        hand("ab");
        is(0, e.judge());
        rowIs(99, 1);
        start("27: -2 - i: the first TURN, and the last of 60 CORNERS");
        tell("a-b:99!;a-c:99;xaba;tbab:99");
        handOf(60, "ab");
        is(-2 - 1, e.judge());
        rowIs(59 * 99 + 29 * 99, 1);
        tell("taba:99;xbac");
        handOf(59, "ab");
        is(60, e.go(2));
        is(-2 - 58, e.judge());
        rowIs(59 * 99 + 57 * 99, 1);
        tell("tbac:99");
        handOf(59, "ab");
        is(60, e.go(2));
        is(0, e.judge());
        rowIs(59 * 99 + 58 * 99, 1);
    }

    static void judgeTenServices() {
        start("27: SERVICES done: none, and all ten");
        full();
        hand("l");
        is(0, e.judge());
        rowIs(0, 0);
        hand("abcdefghija");
        is(0, e.judge());
        rowIs(10, 1023);
        hand("ajihgfedcb");
        is(0, e.judge());
        rowIs(9, 1022);
    }

    static void restBounds() {
        start("28: NONE without CORNERS");
        is(-1, e.rest());
        tell("a-b:1!;c-d:1");
        is(-1, e.rest());
        hand("c");
        is(-2, e.rest());
        hand("a");
        is(2, e.rest());
        rowIs(0, 1, 0);
        hand("ab");
        is(1, e.rest());
        rowIs(1, 0);
        hand("aba");
        is(0, e.rest());
        rowIs(0);
        handOf(60, "ab");
        is(1, e.rest());
        rowIs(1, 0);
        handOf(59, "ab");
        is(0, e.rest());
        rowIs(0);
        tell("xbab");
        handOf(60, "ab");
        is(1, e.rest());
        tell("xaba");
        handOf(60, "ab");
        is(-2, e.rest());
        rowIs(1, 0);
        start("28: without SERVICES one is there, or goes back");
        hand("l");
        is(0, e.rest());
        rowIs(11);
        tell("k-l:99");
        hand("kl");
        is(99, e.rest());
        rowIs(11, 10);
    }

    static void timedBounds() {
        start("29: NONE without CORNERS, and for no minute of 0 .. 1439");
        is(-1, e.timed(0));
        hand("a");
        for (int none : NO_MINUTES) {
            is(-1, e.timed(none));
        }
        e.best(3, 3);
        is(0, e.timed(0));
        rowIs();
        is(1439, e.timed(1439));
        start("29: NONE stays NONE without CORNERS, whatever minute");
        for (int none : NO_MINUTES) {
            is(-1, e.timed(none));
        }
    }

    static void timedBy1440() {
        start("29: over by 1440");
        tell("a-b:1");
        hand("ab");
        is(1440, e.timed(1439));
        hand("aba");
        is(1440, e.timed(1438));
        is(-2 - 1, e.timed(1439));
        start("29: not over by 1440");
        tell("a-b:2");
        hand("ab");
        is(1440, e.timed(1438));
        is(-2, e.timed(1439));
        start("29: not over, by BUSY");
        tell("a-b:99");
        hand("ab");
        e.busy(2, 24, 400, 0);
        is(396, e.timed(0));
        is(1440, e.timed(1044));
        is(-2, e.timed(1045));
        e.busy(2, 24, 1, 0);
        is(1440, e.timed(1439));
    }

    static void timedBegunBy1439() {
        start("29: a PASS can be begun by minute 1439");
        tell("a-b:1");
        hand("aba");
        e.back(1);
        is(1440, e.timed(1437));
        is(-2 - 1, e.timed(1438));
        e.back(99);
        is(1440, e.timed(1339));
        is(-2 - 1, e.timed(1340));
        hand("ab");
        yes(e.open(0, 1439, 1439));
        is(1440, e.timed(0));
        rowIs(1439);
        is(1440, e.timed(1439));
        rowIs(0);
        yes(e.open(0, 0, 0));
        is(1, e.timed(0));
        is(-2, e.timed(1));
        start("29: its TURN is barred");
        tell("a-b:1;xaba");
        hand("aba");
        is(-2 - 1, e.timed(0));
        hand("ab");
        is(1, e.timed(0));
    }

    static void timedOf60Corners() {
        start("29: 60 CORNERS, the last PASS is not over by 1440");
        tell("a-b:24");
        handOf(60, "ab");
        is(1440, e.timed(24));
        is(59, e.count(6));
        is(-2 - 58, e.timed(25));
        is(-2 - 57, e.timed(49));
        is(-2, e.timed(1439));
        is(59, e.count(6));
    }

    static void hoursBegin() {
        start("29: a PASS takes the BUSY of the hour in which it begins, rounded up");
        tell("a-b:3");
        hand("ab");
        is(1 + 400 + 2200, e.busy(2, 2, 1, 399));
        is(1, e.timed(0));
        is(59 + 1, e.timed(59));
        is(60 + 12, e.timed(60));
        is(119 + 12, e.timed(119));
        is(120 + 3, e.timed(120));
        e.busy(2, 1, 133, 0);
        is(4, e.timed(0));
        e.busy(2, 1, 134, 0);
        is(5, e.timed(0));
        e.busy(2, 1, 34, 0);
        is(2, e.timed(0));
        e.busy(2, 1, 33, 0);
        is(1, e.timed(0));
        e.busy(2, 1, 100, 0);
        is(3, e.timed(0));
        e.busy(2, 24, 1, 1);
        is(1439 + 1, e.timed(1439));
    }

    static void waitingIsAsShortAsCanBe() {
        start("29: one waits till it is OPEN, no longer, ahead of the TURN");
        tell("a-b:10;b-c:10;tabc:5");
        hand("abc");
        yes(e.open(1, 20, 20));
        is(30, e.timed(5));
        rowIs(0, 0);
        is(30, e.timed(4));
        rowIs(0, 1);
        is(-2 - 1, e.timed(6));
        yes(e.open(0, 3, 5));
        is(30, e.timed(0));
        rowIs(3, 2);
        yes(e.open(0, 6, 7));
        is(-2 - 1, e.timed(0));
        is(-2, e.timed(8));
        rowIs(3, 2);
    }

    // ---- promise 30: busy

    /** Of each hour its BUSY, by a street of 99 minutes and one of 1: above 100, as 99 takes it. */
    static void hoursAre(int... due) {
        for (int hour = 0; hour < 24; hour++) {
            int busy = hour < due.length ? due[hour] : 100;
            int end = 60 * hour + (99 * busy + 99) / 100;
            is(end > 1440 ? -2 : end, e.timed(60 * hour));
        }
    }

    static void street99() {
        tell("a-b:99");
        hand("ab");
    }

    static void busyKinds() {
        start("30: NONE for another kind, whatever n");
        street99();
        int[] kinds = {-1, 4, 5, 256, 258, MIN, MAX};
        int[] sizes = {0, 1, 24, 25, -1, MIN, MAX};
        for (int kind : kinds) {
            for (int n : sizes) {
                is(-1, e.busy(kind, n, 50, 0));
            }
        }
        hoursAre();
        start("30: NONE for n above 24, of a missing sheet too");
        street99();
        is(1200, e.busy(0, 24, 50, 0));
        for (int kind = 0; kind <= 3; kind++) {
            is(-1, e.busy(kind, 25, 70, 0));
            is(-1, e.busy(kind, 26, 70, 0));
            is(-1, e.busy(kind, MAX, 70, 0));
        }
        is(50, e.timed(0));
        is(50 + 1380, e.timed(1380));
    }

    static void busyBelowNone() {
        start("30: -2 for n below 0, nothing changes");
        street99();
        is(1200, e.busy(0, 24, 50, 0));
        for (int kind = 0; kind <= 2; kind++) {
            is(-2, e.busy(kind, -1, 70, 0));
            is(-2, e.busy(kind, -24, 70, 0));
            is(-2, e.busy(kind, MIN, 70, 0));
        }
        is(50, e.timed(0));
        is(50 + 1380, e.timed(1380));
    }

    static void busyMissing() {
        int[] sizes = {0, 1, 24, -1, MIN};
        for (int n : sizes) {
            start("30: -3 for a missing sheet, all hours have 100");
            street99();
            is(24, e.busy(2, 24, 1, 0));
            is(-3, e.busy(3, n, 7, 7));
            hoursAre();
        }
    }

    static void busySizes() {
        for (int n = 0; n <= 24; n++) {
            start("30: of n entries, the hours behind it have 100");
            street99();
            e.busy(2, 24, 300, 0);
            is(7 * n + 100 * (24 - n), e.busy(2, n, 7, 0));
            int[] due = new int[24];
            for (int hour = 0; hour < 24; hour++) {
                due[hour] = hour < n ? 7 : 100;
            }
            hoursAre(due);
        }
    }

    static void busyEntry(int kind, int f, int due) {
        start("30: kind " + kind + ", entry " + f);
        street99();
        is(due + 2300, e.busy(kind, 1, f, 0));
        is((99 * due + 99) / 100, e.timed(0));
        is(60 + 99, e.timed(60));
    }

    static void busyEntries() {
        for (int kind = 0; kind <= 2; kind++) {
            busyEntry(kind, 1, 1);
            busyEntry(kind, 2, 2);
            busyEntry(kind, 0, 1);
            busyEntry(kind, -1, 1);
            busyEntry(kind, 127, 127);
            busyEntry(kind, -128, 1);
            busyEntry(kind, MIN, 1);
        }
        busyEntry(0, 128, 1);
        busyEntry(0, 255, 1);
        busyEntry(0, 256, 1);
        busyEntry(0, 257, 1);
        busyEntry(0, 258, 2);
        busyEntry(0, 256 + 127, 127);
        busyEntry(0, 401, 1);
        busyEntry(0, 400, 1);
        busyEntry(0, -129, 127);
        busyEntry(0, -156, 100);
        busyEntry(0, MAX, 1);
        busyEntry(0, MIN + 100, 100);
        busyEntry(1, 128, 128);
        busyEntry(1, 399, 399);
        busyEntry(1, 400, 400);
        busyEntry(1, 401, 400);
        busyEntry(1, 32767, 400);
        busyEntry(1, 32768, 1);
        busyEntry(1, 65535, 1);
        busyEntry(1, 65536, 1);
        busyEntry(1, 65536 + 250, 250);
        busyEntry(1, -32769, 400);
        busyEntry(1, -65536 + 250, 250);
        busyEntry(1, MAX, 1);
        busyEntry(1, MIN + 300, 300);
        busyEntry(2, 128, 128);
        busyEntry(2, 399, 399);
        busyEntry(2, 400, 400);
        busyEntry(2, 401, 400);
        busyEntry(2, 32768, 400);
        busyEntry(2, 65536 + 7, 400);
        busyEntry(2, MAX, 400);
        busyEntry(2, MIN + 300, 1);
    }

    static void busySteps() {
        start("30: entries wrap around");
        street99();
        is(400 + 1 + 1 + 2100, e.busy(2, 3, MAX, 1));
        hoursAre(400, 1, 1);
        is(1 + 400 + 400 + 2100, e.busy(2, 3, MIN, -1));
        hoursAre(1, 400, 400);
        is(6 * (1 + 400 + 1 + 1), e.busy(2, 24, 0, 1 << 30));
        is(12 * (5 + 1), e.busy(2, 24, 5, MIN));
        is(23 * 400 + 1, e.busy(2, 24, 0, MAX / 23));
        is(10 * 24, e.busy(0, 24, 10, 256));
        is(10 * 24, e.busy(1, 24, 10, 65536));
        is(126 + 127 + 1 + 1 + 2000, e.busy(0, 4, 126, 1));
        hoursAre(126, 127, 1, 1);
        is(400 + 400 + 1 + 2100, e.busy(1, 3, 32766, 1));
        is(50 + 40 + 30 + 20 + 10 + 1 + 1 + 1700, e.busy(0, 7, 50, -10));
        is(24 * 300, e.busy(1, 24, 300, 0));
    }

    static void openBounds() {
        start("31: refused for no STREET");
        no(e.open(0, 0, 1));
        full();
        for (int none : NO_STREETS) {
            no(e.open(none, 0, 1439));
        }
        yes(e.open(17, 0, 1439));
        start("31: refused for no minute of 0 .. 1439, and to below from");
        tell("a-b:1");
        hand("ab");
        yes(e.open(0, 100, 200));
        for (int none : NO_MINUTES) {
            no(e.open(0, none, 1439));
            no(e.open(0, 0, none));
            no(e.open(0, none, none));
        }
        no(e.open(0, 1, 0));
        no(e.open(0, 1439, 0));
        no(e.open(0, 1439, 1438));
        no(e.open(0, 700, 699));
        is(101, e.timed(0));
        is(201, e.timed(200));
        is(-2, e.timed(201));
    }

    static void openMinutes() {
        int[][] spans = {{0, 0}, {0, 1439}, {1439, 1439}, {0, 1}, {1438, 1439}, {700, 700}, {59, 60}};
        for (int[] span : spans) {
            start("31: OPEN from " + span[0] + " to " + span[1] + ", both too");
            tell("a-b:1");
            hand("ab");
            yes(e.open(0, span[0], span[1]));
            is(span[0] + 1, e.timed(0));
            is(span[0] + 1, e.timed(span[0]));
            rowIs(0);
            is(span[1] + 1, e.timed(span[1]));
            rowIs(0);
            if (span[0] > 0) {
                is(span[0] + 1, e.timed(span[0] - 1));
                rowIs(1);
            }
            if (span[1] < 1439) {
                is(-2, e.timed(span[1] + 1));
            }
        }
    }

    static void openIsOfOneStreet() {
        start("31: OPEN each STREET by itself, the first and the last");
        full();
        yes(e.open(0, 5, 5));
        yes(e.open(17, 7, 7));
        hand("ab");
        is(6, e.timed(0));
        hand("kl");
        is(7 + 9, e.timed(0));
        hand("bc");
        is(1, e.timed(0));
        is(1440, e.timed(1439));
        hand("ai");
        is(9, e.timed(0));
    }

    static void soonestBounds() {
        start("32: NONE for no CORNER, for no minute of 0 .. 1439");
        for (int none : NO_CORNERS) {
            is(-1, e.soonest(none, 0));
            is(-1, e.soonest(none, 1440));
        }
        for (int none : NO_MINUTES) {
            is(-1, e.soonest(0, none));
            is(-1, e.soonest(11, none));
        }
        is(0, e.soonest(0, 0));
        is(0, e.soonest(11, 0));
        is(1439, e.soonest(0, 1439));
        start("32: by 1440, not later");
        tell("a-b:1!");
        is(2, e.soonest(0, 0));
        is(1440, e.soonest(0, 1438));
        is(-2, e.soonest(0, 1439));
        is(-2, e.soonest(11, 0));
        e.back(99);
        is(1440, e.soonest(0, 1339));
        is(-2, e.soonest(0, 1340));
    }

    static void soonestByOpen() {
        start("32: begun by minute 1439, while it is OPEN");
        tell("a-b:1!");
        yes(e.open(0, 1438, 1439));
        is(1440, e.soonest(0, 0));
        yes(e.open(0, 1438, 1438));
        is(-2, e.soonest(0, 0));
        yes(e.open(0, 1439, 1439));
        is(-2, e.soonest(0, 0));
        yes(e.open(0, 0, 0));
        is(-2, e.soonest(0, 0));
        yes(e.open(0, 0, 1));
        is(2, e.soonest(0, 0));
        is(-2, e.soonest(0, 1));
    }

    static void soonestOfTheHours() {
        start("32: one may wait for the next hour, if that is sooner");
        tell("a-b:20!");
        is(400 + 50 + 2200, e.busy(2, 2, 400, -350));
        is(80, e.soonest(0, 0));
        e.busy(2, 24, 400, 0);
        is(160, e.soonest(0, 0));
        is(1440, e.soonest(0, 1280));
        is(-2, e.soonest(0, 1281));
        e.busy(2, 24, 1, 0);
        is(2, e.soonest(0, 0));
        is(1440, e.soonest(0, 1438));
    }

    public static void main(String[] args) {
        goBounds();
        sixtyCorners();
        undoBounds();
        judgeBounds();
        judgeTenServices();
        restBounds();
        timedBounds();
        timedBy1440();
        timedBegunBy1439();
        timedOf60Corners();
        hoursBegin();
        waitingIsAsShortAsCanBe();
        busyKinds();
        busyBelowNone();
        busyMissing();
        busySizes();
        busyEntries();
        busySteps();
        openBounds();
        openMinutes();
        openIsOfOneStreet();
        soonestBounds();
        soonestByOpen();
        soonestOfTheHours();
        finish("HandBoundaryTests");
    }
}
