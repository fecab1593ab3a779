/** Promises 33 to 39 at their bounds: THE ORDER, carts, parts. */
public final class OrderBoundaryTests extends Bounds {
    // ---- promises 33 to 37: an order

    static void addBounds() {
        start("33: refused for no SERVICE, for one that is there");
        is(-1, e.add(0, false));
        is(-1, e.add(0, true));
        full();
        for (int i = 0; i < 10; i++) {
            for (int none : NO_SERVICES) {
                is(-1, e.add(none, false));
                is(-1, e.add(none, true));
            }
            is(i + 1, e.add(9 - i, i % 2 == 1));
            is(-1, e.add(9 - i, false));
            is(-1, e.add(9 - i, true));
            is(i + 1, e.count(4));
        }
        for (int i = 0; i < 10; i++) {
            is(9 - i, e.pass(i, 0));
            is(i % 2, e.pass(i, 1));
            is(-1, e.add(i, false));
        }
        is(10, e.count(4));
    }

    static void addWantsAPassThatDoes() {
        start("33: refused, if it is not done by that PASS, or there is none that way");
        tell("a-b:1=;b>c:1!;c-d:1/2!");
        is(-1, e.add(0, true));
        is(-1, e.add(1, false));
        is(-1, e.add(2, true));
        is(0, e.count(4));
        for (int s = 0; s < 3; s++) {
            e.shut(s, true);
        }
        is(1, e.add(0, false));
        is(2, e.add(1, true));
        is(3, e.add(2, false));
        is(4, e.add(3, true));
        is(-2, e.order());
    }

    static void orderBounds() {
        start("34: NONE, if it is empty; one PASS; ten");
        is(-1, e.order());
        full();
        is(-1, e.order());
        is(1, e.add(9, true));
        is(1, e.order());
        for (int i = 0; i < 9; i++) {
            is(i + 2, e.add(8 - i, true));
        }
        is(10, e.order());
        yes(e.shut(9, true));
        is(-2, e.order());
        yes(e.shut(9, false));
        yes(e.shut(0, true));
        is(-2, e.order());
        start("34: -2 with no LAWFUL way between");
        tell("a-b:1!;c-d:1!");
        e.add(0, false);
        is(1, e.order());
        e.add(1, false);
        is(-2, e.order());
        tell("b-c:99;xabc");
        e.add(0, false);
        e.add(1, false);
        is(-2, e.order());
        tell("tabc:99");
        e.add(0, false);
        e.add(1, false);
        is(1 + 99 + 99 + 1, e.order());
    }

    static void buildBounds() {
        start("35: NONE without SERVICES");
        is(-1, e.build());
        tell("a-b:1");
        is(-1, e.build());
        is(0, e.count(4));
        start("35: one SERVICE, as told ahead of back");
        tell("a-b:7!");
        is(7, e.build());
        is(0, e.pass(0, 1));
        is(1, e.count(4));
        start("35: ten SERVICES");
        full();
        is(10, e.build());
        is(10, e.count(4));
        is(10, e.order());
        start("35: -2: THE ORDER stays");
        tell("a-b:1!;b-c:1!;d-e:1!");
        e.add(1, true);
        e.add(0, true);
        is(-2, e.build());
        is(2, e.count(4));
        is(1, e.pass(0, 0));
        is(1, e.pass(0, 1));
        is(0, e.pass(1, 0));
        is(1, e.pass(1, 1));
        yes(e.shut(0, true));
        is(-2, e.build());
        is(2, e.count(4));
    }

    static void betterBounds() {
        start("36: NONE, if it is empty");
        is(-1, e.better());
        full();
        is(-1, e.better());
        start("36: 0, if nothing betters it");
        tell("a-b:1!");
        e.add(0, true);
        is(0, e.better());
        is(1, e.pass(0, 1));
        start("36: -2, if it can't be as it is: THE ORDER stays");
        tell("a-b:1!;c-d:1!");
        e.add(1, true);
        e.add(0, true);
        is(-2, e.better());
        is(1, e.pass(0, 0));
        is(0, e.pass(1, 0));
        start("36: ten PASSES");
        full();
        for (int i = 0; i < 10; i++) {
            e.add(i, false);
        }
        is(10, e.order());
        is(0, e.better());
        start("36: only if all can be turned round");
        tell("a>b:1!;b>c:1!;c>a:9");
        e.add(1, false);
        e.add(0, false);
        is(11, e.order());
        is(1, e.better());
        is(2, e.order());
        is(0, e.pass(0, 1));
        is(0, e.pass(1, 1));
    }

    static void passBounds() {
        start("37: NONE for a PASS that is none, or another what");
        int[] places = {-1, 10, 11, 32, 256, MIN, MAX};
        int[] others = {-1, 2, 3, 32, 256, MIN, MAX};
        for (int i : places) {
            is(-1, e.pass(i, 0));
        }
        is(-1, e.pass(0, 0));
        full();
        is(10, e.build());
        for (int i : places) {
            is(-1, e.pass(i, 0));
            is(-1, e.pass(i, 1));
        }
        for (int what : others) {
            is(-1, e.pass(0, what));
            is(-1, e.pass(9, what));
            is(-1, e.pass(10, what));
        }
        is(9, e.pass(0, 0));
        is(8, e.pass(9, 0));
        is(0, e.pass(9, 1));
        start("37: as many as THE ORDER has");
        tell("a-b:1!;b-c:1!");
        e.add(1, true);
        is(1, e.pass(0, 0));
        is(-1, e.pass(1, 0));
        is(-1, e.pass(1, 1));
    }

    // ---- promises 38 and 39: carts, parts

    static void cartsRefused() {
        start("38: NONE for others");
        int[] numbers = {0, -1, 5, 6, 256 + 1, MIN, MAX};
        int[] caps = {0, -1, 100, 101, 256 + 9, MIN, MAX};
        int[] whats = {-1, 2, 3, 256, MIN, MAX};
        full();
        is(0, e.some(5, 0));
        for (int none : NO_CORNERS) {
            is(-1, e.carts(none, 1, 99, 0));
        }
        for (int k : numbers) {
            is(-1, e.carts(0, k, 99, 0));
            is(-1, e.carts(0, k, 99, 1));
        }
        for (int cap : caps) {
            is(-1, e.carts(0, 1, cap, 0));
            is(-1, e.carts(0, 4, cap, 1));
        }
        for (int what : whats) {
            is(-1, e.carts(0, 1, 99, what));
        }
        rowIs(5);
    }

    static void cartsWithoutServices() {
        start("38: without SERVICES each cart has none");
        for (int k = 1; k <= 4; k++) {
            for (int what = 0; what <= 1; what++) {
                is(0, e.carts(11, k, 1, what));
                rowIs(new int[k]);
                is(0, e.carts(0, k, 99, what));
            }
        }
    }

    static void cartsByLoad() {
        start("38: LOADED with cap at most");
        tell("a-b:1!$9;a-c:1!$9;a-d:1!$9");
        is(-2, e.carts(0, 4, 8, 0));
        is(6, e.carts(0, 3, 9, 0));
        rowIs(1, 2, 4);
        is(-2, e.carts(0, 2, 9, 0));
        is(-2, e.carts(0, 2, 17, 1));
        rowIs(1, 2, 4);
        is(4, e.carts(0, 2, 18, 1));
        rowIs(1, 6);
        is(-2, e.carts(0, 1, 26, 0));
        is(6, e.carts(0, 1, 27, 0));
        rowIs(7);
        is(6, e.carts(0, 4, 27, 0));
        rowIs(0, 0, 0, 7);
        is(2, e.carts(0, 4, 99, 1));
        rowIs(0, 1, 2, 4);
        start("38: the greatest LOADS and the least");
        tell("a-b:1=$9;a-c:1=$9;a-d:1=$9;a-e:1=$9;a-f:1=$9");
        is(10, e.carts(0, 1, 90, 0));
        rowIs(1023);
        is(-2, e.carts(0, 1, 89, 0));
        is(10, e.carts(0, 1, 99, 1));
        is(10, e.carts(0, 2, 54, 0));
        rowIs(15, 1008);
        is(6, e.carts(0, 2, 54, 1));
        rowIs(15, 1008);
        start("38: a cap of 1");
        tell("a-b:1!;a-c:1!;a-d:1!;a-e:1!");
        is(8, e.carts(0, 4, 1, 0));
        rowIs(1, 2, 4, 8);
        is(-2, e.carts(0, 3, 1, 0));
    }

    static void cartsInTheFirstRow() {
        start("38: of as few MINUTES the first row, of three carts");
        tell("a-b:9!$9;a-c:2!$5;c-d:2!$4;d-a:2;a-e:5!$4");
        is(18 + 6 + 10, e.carts(0, 3, 9, 0));
        rowIs(1, 6, 8);
        is(18, e.carts(0, 3, 9, 1));
        rowIs(1, 2, 12);
    }

    static void cartsThatCannotBe() {
        start("38: -2, if a SERVICE can't be done from there: the ROW stays");
        full();
        is(10, e.carts(0, 4, 99, 0));
        rowIs(0, 0, 0, 1023);
        is(-2, e.carts(10, 4, 99, 0));
        is(-2, e.carts(11, 1, 99, 1));
        rowIs(0, 0, 0, 1023);
        yes(e.shut(9, true));
        is(-2, e.carts(0, 4, 99, 1));
    }

    static void partsBounds() {
        start("39: NONE for no k of 1 .. 4; -2 without SERVICES");
        int[] numbers = {0, -1, 5, 6, 256 + 1, MIN, MAX};
        for (int k : numbers) {
            is(-1, e.parts(k));
        }
        for (int k = 1; k <= 4; k++) {
            is(-2, e.parts(k));
        }
        start("39: as many parts as STREETS, none empty");
        for (int streets = 1; streets <= 4; streets++) {
            start("39: " + streets + " STREETS, no STREET in two parts");
            tell("a-b:9/7=;b-c:9/7=;c-d:9/7=;d-e:9/7=".substring(0, 9 * streets - 1));
            e.best(0, 0);
            for (int k = 1; k <= 4; k++) {
                int most = k > streets ? -2 : 14 * ((streets + k - 1) / k);
                is(most, e.parts(k));
            }
        }
        rowIs(3, 12, 48, 192);
        start("39: ten SERVICES");
        full();
        is(10, e.parts(1));
        rowIs(1023);
        is(3, e.parts(4));
        rowIs(1, 14, 112, 896);
    }

    static void partsThatHangTogether() {
        start("39: -2, if there are more pieces than parts: the ROW stays");
        tell("a-b:1!;c-d:1!;e-f:1!;g-h:1!");
        is(1, e.parts(4));
        rowIs(1, 2, 4, 8);
        for (int k = 1; k <= 3; k++) {
            is(-2, e.parts(k));
        }
        rowIs(1, 2, 4, 8);
        tell("i-j:1!");
        is(-2, e.parts(4));
        tell("b-i:99");
        is(-2, e.parts(4));
    }

    public static void main(String[] args) {
        addBounds();
        addWantsAPassThatDoes();
        orderBounds();
        buildBounds();
        betterBounds();
        passBounds();
        cartsRefused();
        cartsWithoutServices();
        cartsByLoad();
        cartsInTheFirstRow();
        cartsThatCannotBe();
        partsBounds();
        partsThatHangTogether();
        finish("OrderBoundaryTests");
    }
}
