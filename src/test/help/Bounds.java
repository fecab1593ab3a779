/** What the tests of bounds have in common: arguments that are refused, full towns, long walks. */
abstract class Bounds extends Check {
    static final int MIN = Integer.MIN_VALUE;
    static final int MAX = Integer.MAX_VALUE;
    /** The nearest ones, those that a shift or a byte would take for others, the least and the greatest. */
    static final int[] NO_CORNERS = {-1, 12, -2, 13, 32, 256, -256, 65536, MIN, MAX};
    static final int[] NO_STREETS = {-1, 18, 19, 31, 32, 33, 64, -32, 256, MIN, MAX};
    static final int[] NO_SERVICES = {-1, 10, 11, 31, 32, 33, 64, -32, 256, MIN, MAX};
    static final int[] NO_MINUTES = {-1, 1440, 1441, -1440, 65536, MIN, MAX};
    static final int[] NO_SETS_OF_CORNERS = {-1, 4096, 4097, 8192, 65536, MIN, MAX};

    /** 18 streets and 10 services: a ring a .. j of streets that must be gone, chords from a, and k-l apart. */
    static void full() {
        is(8, tell("a-b:1!;b-c:1!;c-d:1!;d-e:1!;e-f:1!;f-g:1!;g-h:1!;h-i:1!"));
        is(8, tell("i-j:1!;j-a:1!;a-c:9;a-d:9;a-e:9;a-f:9;a-g:9;a-h:9"));
        is(2, tell("a-i:9;k-l:9"));
    }

    static void handOf(int size, String around) {
        e.undo(0);
        for (int i = 0; i < size; i++) {
            is(i + 1, e.go(around.charAt(i % around.length()) - 'a'));
        }
    }

    /** One way around 12 corners in 12 minutes, each service to be done ahead of the one told before it. */
    static void longRing() {
        is(8, tell("a>b:1!;b>c:1!;c>d:1!;d>e:1!;e>f:1!;f>g:1!;g>h:1!;h>i:1!"));
        is(4, tell("i>j:1;j>k:1!;k>l:1!;l>a:1"));
        for (int i = 0; i < 9; i++) {
            yes(e.ahead(i + 1, i));
        }
    }
}
