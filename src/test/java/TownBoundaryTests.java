/** Promises 5 to 11 at their bounds: the town. */
public final class TownBoundaryTests extends Bounds {
    static void backFrom0To99() {
        start("5: BACK 0 .. 99, at first 0; others are refused");
        int was = 0;
        for (int v = 0; v <= 99; v++) {
            is(was, e.back(v));
            is(v, e.count(2));
            was = v;
        }
        int[] others = {-1, 100, 101, -99, 256, 355, 65536, MIN, MAX};
        for (int v : others) {
            is(-1, e.back(v));
            is(99, e.count(2));
            is(99, e.turn(0, 1, 0));
        }
        is(99, e.back(0));
        is(-1, e.back(-1));
        is(0, e.turn(0, 1, 0));
    }

    static void streetBounds() {
        start("6: NONE for a STREET that is none, or another what");
        full();
        int[][] due = {{0, 1, 1, 1, 1, 1, 0}, {10, 11, 9, 9, 0, 0, 0}};
        for (int what = 0; what <= 6; what++) {
            is(due[0][what], e.street(0, what));
            is(due[1][what], e.street(17, what));
            for (int s : NO_STREETS) {
                is(-1, e.street(s, what));
            }
        }
        int[] others = {-1, 7, 8, 32, 256, MIN, MAX};
        for (int what : others) {
            is(-1, e.street(0, what));
            is(-1, e.street(17, what));
            is(-1, e.street(18, what));
        }
    }

    static void streetsAsFarAsTold() {
        start("6: NONE behind the STREETS that are told");
        for (int s = 0; s < 18; s++) {
            is(-1, e.street(s, 0));
        }
        tell("a-b:1");
        is(0, e.street(0, 0));
        is(-1, e.street(1, 0));
        tell("b-c:1");
        is(1, e.street(1, 0));
        is(-1, e.street(2, 0));
    }

    static void betweenBounds() {
        start("7: NONE, where there is no STREET between two CORNERS");
        full();
        is(0, e.between(0, 1));
        is(0, e.between(1, 0));
        is(17, e.between(10, 11));
        is(17, e.between(11, 10));
        is(-1, e.between(0, 11));
        is(-1, e.between(11, 0));
        for (int corner = 0; corner < 12; corner++) {
            is(-1, e.between(corner, corner));
        }
        for (int none : NO_CORNERS) {
            is(-1, e.between(none, 0));
            is(-1, e.between(0, none));
            is(-1, e.between(11, none));
            is(-1, e.between(none, none));
        }
    }

    static void turnBounds() {
        start("8: NONE, if they are not three CORNERS whose neighbours are unlike");
        is(4, tell("tabc:9;tlkl:0;xlal;xklk"));
        is(9, e.turn(0, 1, 2));
        is(0, e.turn(11, 10, 11));
        is(-1, e.turn(11, 0, 11));
        is(-1, e.turn(10, 11, 10));
        for (int a = 0; a < 12; a++) {
            for (int b = 0; b < 12; b++) {
                is(-1, e.turn(a, a, b));
                is(-1, e.turn(a, b, b));
            }
        }
        for (int none : NO_CORNERS) {
            is(-1, e.turn(none, 1, 2));
            is(-1, e.turn(0, none, 2));
            is(-1, e.turn(0, 1, none));
            is(-1, e.turn(none, none, none));
        }
    }

    static void turnsAreToldFarthest() {
        for (int a = 0; a < 12; a++) {
            start("8: TURNS not told: 0, BACK if back; those told back stay");
            tell("taba:7;xbab");
            e.back(99);
            for (int b = 0; b < 12; b++) {
                for (int c = 0; c < 12; c++) {
                    boolean told = a + b == 1 && a == c;
                    if (a != b && b != c && !told) {
                        is(a == c ? 99 : 0, e.turn(a, b, c));
                    }
                }
            }
        }
        is(7, e.turn(0, 1, 0));
        is(-1, e.turn(1, 0, 1));
    }

    static void serviceBounds() {
        start("9: NONE for a SERVICE that is none, or another what");
        full();
        int[] first = {0, 0, 1, 0};
        int[] last = {9, 0, 1, 0};
        for (int what = 0; what <= 3; what++) {
            is(first[what], e.service(0, what));
            is(last[what], e.service(9, what));
            for (int s : NO_SERVICES) {
                is(-1, e.service(s, what));
            }
        }
        int[] others = {-1, 4, 5, 32, 256, MIN, MAX};
        for (int what : others) {
            is(-1, e.service(0, what));
            is(-1, e.service(9, what));
            is(-1, e.service(10, what));
        }
        start("9: NONE behind the SERVICES that are told");
        tell("a-b:1;b-c:1=");
        is(1, e.service(1, 0));
        is(2, e.service(1, 1));
        is(-1, e.service(2, 0));
    }

    static void aheadWantsServices() {
        start("10: refused, if there is no such SERVICE");
        full();
        for (int none : NO_SERVICES) {
            no(e.ahead(none, 0));
            no(e.ahead(0, none));
            no(e.ahead(9, none));
            no(e.ahead(none, none));
        }
        for (int i = 0; i < 10; i++) {
            is(0, e.service(i, 3));
        }
    }

    static void aheadOfItself() {
        start("10: refused, if it would be ahead of itself");
        full();
        for (int i = 0; i < 10; i++) {
            no(e.ahead(i, i));
            is(0, e.service(i, 3));
        }
    }

    static void aheadOfItselfByOthers() {
        int[][] chains = {{0, 1, 2, 3, 4, 5, 6, 7, 8, 9}, {9, 8, 7, 6, 5, 4, 3, 2, 1, 0}, {4, 9, 0, 7, 2, 5, 8, 1, 6, 3}};
        for (int[] chain : chains) {
            start("10: refused, if it would be ahead of itself by others, up to nine");
            full();
            for (int i = 0; i < 9; i++) {
                yes(e.ahead(chain[i], chain[i + 1]));
            }
            for (int i = 0; i < 10; i++) {
                for (int j = 0; j <= i; j++) {
                    no(e.ahead(chain[i], chain[j]));
                }
                is(i == 0 ? 0 : 1 << chain[i - 1], e.service(chain[i], 3));
            }
            yes(e.ahead(chain[0], chain[9]));
            is(1 << chain[0] | 1 << chain[8], e.service(chain[9], 3));
        }
    }

    static void aheadOfAllOthers() {
        start("10: up to nine AHEAD of one");
        full();
        for (int i = 0; i < 9; i++) {
            yes(e.ahead(i, 9));
            no(e.ahead(9, i));
            yes(e.ahead(i, 9));
        }
        is(511, e.service(9, 3));
        start("10: one AHEAD of nine");
        full();
        for (int i = 1; i < 10; i++) {
            yes(e.ahead(9, i - 1));
        }
        for (int i = 0; i < 9; i++) {
            is(512, e.service(i, 3));
            no(e.ahead(i, 9));
        }
    }

    static void shutBounds() {
        start("11: refused, if there is no such STREET");
        full();
        for (int none : NO_STREETS) {
            no(e.shut(none, true));
            no(e.shut(none, false));
        }
        is(0, e.count(9));
        for (int s = 0; s < 18; s++) {
            yes(e.shut(s, true));
            is(s + 1, e.count(9));
            yes(e.shut(s, true));
            is(s + 1, e.count(9));
        }
        for (int none : NO_STREETS) {
            no(e.shut(none, true));
            no(e.shut(none, false));
        }
        for (int s = 0; s < 18; s++) {
            is(1, e.street(s, 6));
            yes(e.shut(s, false));
            yes(e.shut(s, false));
            is(0, e.street(s, 6));
            is(17 - s, e.count(9));
        }
    }

    static void shutAsFarAsTold() {
        start("11: a STREET that is told later is not SHUT ahead of that");
        no(e.shut(0, true));
        tell("a-b:1");
        is(0, e.street(0, 6));
        no(e.shut(1, true));
        yes(e.shut(0, true));
        tell("b-c:1");
        is(1, e.street(0, 6));
        is(0, e.street(1, 6));
        is(1, e.count(9));
    }

    public static void main(String[] args) {
        backFrom0To99();
        streetBounds();
        streetsAsFarAsTold();
        betweenBounds();
        turnBounds();
        turnsAreToldFarthest();
        serviceBounds();
        aheadWantsServices();
        aheadOfItself();
        aheadOfItselfByOthers();
        aheadOfAllOthers();
        shutBounds();
        shutAsFarAsTold();
        finish("TownBoundaryTests");
    }
}
