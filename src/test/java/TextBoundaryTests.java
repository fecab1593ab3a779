/** Promises 1 to 4 at their bounds: a new object, THE TEXT's signs and end, what of a TOWN's text can stand. */
public final class TextBoundaryTests extends Check {
    static final int MIN = Integer.MIN_VALUE;
    static final int MAX = Integer.MAX_VALUE;
    static final String CORNERS = "abcdefghijkl";
    /** 60 signs: ten streets without services. */
    static final String SIXTY = "a-b:1;a-c:1;a-d:1;a-e:1;a-f:1;a-g:1;a-h:1;a-i:1;a-j:1;a-k:11";

    // ---- promise 1

    static void newObjectHasNothing() {
        start("1: no STREETS, and nothing else");
        for (int what = 0; what <= 10; what++) {
            is(0, e.count(what));
        }
        for (int what = -1; what <= 7; what++) {
            is(-1, e.street(0, what));
            is(-1, e.service(0, what));
        }
        for (int a = 0; a < 12; a++) {
            for (int b = 0; b < 12; b++) {
                is(-1, e.between(a, b));
                is(a == b ? 0 : -1, e.far(a, b));
            }
        }
        yes(noRow(0));
    }

    static void newObjectRefusesWhatWantsStreets() {
        start("1: nothing can be told of streets and services that are none");
        no(e.shut(0, true));
        no(e.open(0, 0, 1439));
        no(e.ahead(0, 1));
        no(e.straight(0, 1, 2));
        no(e.straight(0, 1, -1));
        is(-1, e.add(0, false));
        is(-1, e.pass(0, 0));
        for (int i = 0; i < 3; i++) {
            no(e.again(i));
        }
        is(-1, e.judge());
        is(-1, e.rest());
        is(-1, e.timed(0));
        is(-1, e.card());
        is(-1, e.mislead(0));
        is(-1, e.order());
        is(-1, e.build());
        is(-1, e.better());
    }

    static void newObjectAtFirst() {
        start("1: BACK 0, BUSY 100, OPEN all day, straight on nowhere");
        is(0, e.turn(0, 1, 0));
        tell("a-b:10;b-c:10");
        hand("ab");
        for (int hour = 0; hour < 24; hour++) {
            is(60 * hour + 10, e.timed(60 * hour));
            is(60 * hour + 10 + (hour < 23 ? 59 : 20), e.timed(60 * hour + (hour < 23 ? 59 : 20)));
            rowIs(0);
        }
        hand("abc");
        is(1, e.card());
    }

    static void objectsAreApart() {
        start("1: what one object is told another one does not know");
        EveryStreet other = new EveryStreet();
        tell("a-b:1!;tabc:5");
        e.back(9);
        hand("ab");
        e.prove(1, 1);
        for (int what = 0; what <= 10; what++) {
            is(0, other.count(what));
        }
        is(0, other.turn(0, 1, 2));
        is(0, other.turn(0, 1, 0));
    }

    // ---- promise 2

    static void fourSignsEachTime() {
        start("2: four signs more each time, up to 100");
        for (int i = 1; i <= 25; i++) {
            is(4 * i, e.sign(i % 2 == 0 ? MIN : MAX));
            is(4 * i, e.count(7));
        }
        is(-1, e.sign(0));
        is(100, e.count(7));
    }

    static void moreThanHundredSigns() {
        start("2: refused, if there would be more than 100");
        for (int size = 93; size <= 100; size++) {
            e = new EveryStreet();
            for (int i = 0; i < 25; i++) {
                e.sign(0);
            }
            yes(e.end(size));
            is(size <= 96 ? size + 4 : -1, e.sign(-1));
            is(size <= 96 ? size + 4 : size, e.count(7));
        }
    }

    static void highestByteFirst() {
        start("2: of v the highest byte first");
        is(4, e.sign(0x612D623A));
        is(8, e.sign(0x39392139));
        yes(e.end(7));
        is(1, e.town());
        is(0, e.street(0, 0));
        is(1, e.street(0, 1));
        is(99, e.street(0, 2));
        is(1, e.street(0, 4));
    }

    static void signsOfAnyByte() {
        start("2: each byte is a sign, those above 127 too");
        int[] values = {0x61FFFFFF, 0x612D80FF, 0x612D62FF, 0x612D623A, 0x610D2D62, 0x80000000, -1};
        int[] places = {1, 2, 3, 4, 1, 0, 0};
        for (int i = 0; i < values.length; i++) {
            is(4, e.sign(values[i]));
            is(-1 - places[i], e.town());
        }
    }

    static void refusedSignsDoNotCome() {
        start("2: a refused call's signs do not come");
        sign("c-d:7" + "-".repeat(95));
        is(-1, e.sign(0x612D623A));
        is(-1, e.sign(MIN));
        yes(e.end(5));
        is(1, e.town());
        is(2, e.street(0, 0));
        is(7, e.street(0, 2));
    }

    // ---- promise 3

    static void endOfTexts() {
        int[] sizes = {0, 1, 4, 5, 60, 61, 99, 100};
        for (int size : sizes) {
            start("3: a text of " + size);
            sign("a".repeat(size));
            int[] refused = {size + 1, size + 4, 101, 256, MAX, -1, -size - 1, MIN};
            for (int n : refused) {
                no(e.end(n));
                is(size, e.count(7));
            }
            yes(e.end(size));
            is(size, e.count(7));
            if (size > 0) {
                yes(e.end(size - 1));
                is(size - 1, e.count(7));
                no(e.end(size));
            }
            yes(e.end(0));
            is(0, e.count(7));
            no(e.end(1));
            yes(e.end(0));
        }
    }

    static void firstSignsStay() {
        start("3: the first n signs stay, and others come behind them");
        sign("a-b:12/34=$5");
        yes(e.end(5));
        is(9, e.sign(0x392F3821));
        is(1, e.town());
        is(19, e.street(0, 2));
        is(8, e.street(0, 3));
        is(1, e.street(0, 4));
    }

    // ---- promise 4: signs

    /** A new object told another town, then a text. */
    static int answer(String before, String text) {
        EveryStreet one = new EveryStreet();
        if (!before.isEmpty()) {
            sign(one, before);
            if (one.town() <= 0) {
                fault("the town ahead can't be told");
            }
        }
        int streets = one.count(0);
        int turns = one.count(5);
        sign(one, text);
        int answer = one.town();
        if (answer < 0 && (one.count(0) != streets || one.count(5) != turns)) {
            fault(text + " is not to be told, and something is");
        }
        if (one.count(7) != 0) {
            fault("THE TEXT is not empty behind " + text);
        }
        return answer;
    }

    /**
     * Behind a prefix each of the 256 signs: those that end a text that stands, those with which it must go
     * on; any other one can't stand there.
     */
    static void next(String before, String prefix, String ending, String going) {
        promise = "4: a sign behind \"" + prefix + "\"" + (before.isEmpty() ? "" : ", told " + before);
        int items = 1;
        for (int i = 0; i < prefix.length(); i++) {
            items += prefix.charAt(i) == ';' ? 1 : 0;
        }
        int p = prefix.length();
        for (int c = 0; c < 256; c++) {
            int due = ending.indexOf(c) >= 0 ? items : going.indexOf(c) >= 0 ? -1 - p - 1 : -1 - p;
            int got = answer(before, prefix + (char) c);
            checks++;
            if (due != got) {
                fault("sign " + c + ": due " + due + ", answered " + got);
            }
        }
    }

    static String without(String text, String signs) {
        StringBuilder left = new StringBuilder();
        for (int i = 0; i < text.length(); i++) {
            left.append(signs.indexOf(text.charAt(i)) < 0 ? text.substring(i, i + 1) : "");
        }
        return left.toString();
    }

    static void signsOfStreets() {
        String digits = "0123456789";
        String first = "123456789";
        next("", "", "", CORNERS + "tx");
        next("", "a", "", "->");
        next("", "l", "", "->");
        next("", "a-", "", without(CORNERS, "a"));
        next("", "l-", "", without(CORNERS, "l"));
        next("", "l>", "", without(CORNERS, "l"));
        next("", "a-b", "", ":");
        next("", "a>b", "", ":");
        next("", "a-b:", first, "");
        next("", "a>b:", first, "");
        next("", "a-b:1", digits + "!=", "/;");
        next("", "a-b:9", digits + "!=", "/;");
        next("", "a-b:10", "!=", "/;");
        next("", "a-b:99", "!=", "/;");
        next("", "a>b:1", digits + "!", ";");
        next("", "a>b:99", "!", ";");
        next("", "a-b:1/", first, "");
        next("", "a-b:99/", first, "");
        next("", "a-b:1/2", digits + "!=", ";");
        next("", "a-b:1/99", "!=", ";");
        next("", "a-b:1!", "", "$;");
        next("", "a-b:1=", "", "$;");
        next("", "a-b:1/2=", "", "$;");
        next("", "a>b:1!", "", "$;");
        next("", "a-b:1!$", first, "");
        next("", "a-b:1=$", first, "");
        next("", "a>b:1!$", first, "");
        next("", "a-b:1!$1", "", ";");
        next("", "a-b:1=$9", "", ";");
        next("", "a>b:1!$5", "", ";");
    }

    static void signsOfTurns() {
        String digits = "0123456789";
        next("", "t", "", CORNERS);
        next("", "ta", "", without(CORNERS, "a"));
        next("", "tl", "", without(CORNERS, "l"));
        next("", "tab", "", without(CORNERS, "b"));
        next("", "tkl", "", without(CORNERS, "l"));
        next("", "tabc", "", ":");
        next("", "taba", "", ":");
        next("", "tabc:", digits, "");
        next("", "tabc:0", digits, ";");
        next("", "tabc:9", digits, ";");
        next("", "tabc:00", "", ";");
        next("", "tabc:99", "", ";");
        next("", "x", "", CORNERS);
        next("", "xa", "", without(CORNERS, "a"));
        next("", "xl", "", without(CORNERS, "l"));
        next("", "xab", without(CORNERS, "b"), "");
        next("", "xla", without(CORNERS, "a"), "");
        next("", "xabc", "", ";");
        next("", "xaba", "", ";");
    }

    static void signsBehindItems() {
        String start = CORNERS + "tx";
        next("", "a-b:1;", "", start);
        next("", "a-b:1!$9;", "", start);
        next("", "tabc:9;", "", start);
        next("", "xabc;", "", start);
        next("", "xabc;xabc;", "", start);
    }

    static void secondCornersThatHaveAStreet() {
        String[][] towns = {{"", "a-b:1;"}, {"", "b-a:1;"}, {"", "a>b:1;"}, {"", "b>a:1;"},
            {"a-b:1", ""}, {"b-a:1", ""}, {"a>b:1", ""}, {"b>a:1", ""}};
        for (String[] told : towns) {
            next(told[0], told[1] + "a-", "", without(CORNERS, "ab"));
            next(told[0], told[1] + "a>", "", without(CORNERS, "ab"));
            next(told[0], told[1] + "b-", "", without(CORNERS, "ab"));
            next(told[0], told[1] + "c>", "", without(CORNERS, "c"));
            next(told[0], told[1] + "ta", "", without(CORNERS, "a"));
            next(told[0], told[1] + "xa", "", without(CORNERS, "a"));
        }
        next("a-b:1;a-c:1;a-d:1", "a-e:1;a-f:1;a-", "", "ghijkl");
        next("", "a-b:1;c-b:1;b-", "", "defghijkl");
        next("", "tabc:1;a-", "", without(CORNERS, "a"));
    }

    // ---- promise 4: ends

    /** Each text that ends too early: the sign that is wanted is the one at its end. */
    static void ends(String text, int... complete) {
        promise = "4: the ends of \"" + text + "\"";
        for (int size = 0; size <= text.length(); size++) {
            int due = -1 - size;
            for (int end : complete) {
                due = end == size ? 1 + (int) text.substring(0, size).chars().filter(c -> c == ';').count() : due;
            }
            checks++;
            int got = answer("", text.substring(0, size));
            if (due != got) {
                fault("the first " + size + ": due " + due + ", answered " + got);
            }
        }
    }

    static void textsThatEndTooEarly() {
        ends("a-b:10/20=$9", 5, 6, 8, 9, 10, 12);
        ends("a>b:10!$1", 5, 6, 7, 9);
        ends("a-b:1!$5;c>d:2", 5, 6, 8, 14);
        ends("tabc:07;xcba", 6, 7, 12);
        ends("xaba;taba:0", 4, 11);
    }

    // ---- promise 4: sixty signs

    static void sixtySignsAndMore() {
        start("4: at most 60 signs");
        is(60, SIXTY.length());
        is(10, answer("", SIXTY));
        for (int more = 1; more <= 40; more++) {
            is(-61, answer("", SIXTY + ";a-l:1".repeat(7).substring(0, more)));
            is(-61, answer("", SIXTY + "?".repeat(more)));
        }
        String signs = ";!=/$:0123456789abl-> \u0000\u00ff";
        for (int i = 0; i < signs.length(); i++) {
            is(-61, answer("", SIXTY + signs.charAt(i)));
            is(-61, answer("", SIXTY.substring(0, 59) + ";" + signs.charAt(i)));
        }
        is(10, answer("", SIXTY.substring(0, 59)));
        is(10, answer("", SIXTY.substring(0, 59) + "!"));
        is(10, answer("", SIXTY.substring(0, 59) + "="));
    }

    /** Items of so many signs in all, at least 4; of streets one at most, between b and c. */
    static String filler(int size) {
        String[] first = {"b-c:1", "tabc:5", "tabc:10", "b-c:1/22", "xabc"};
        StringBuilder text = new StringBuilder(first[size % 5]);
        while (text.length() < size) {
            text.append(";xabc");
        }
        return text.toString();
    }

    static void sixtySignsThatEndTooEarly() {
        start("4: 60 signs that could go on");
        String[] lasts = {";", ";d", ";d-", ";d>", ";d-e", ";d>e", ";d-e:", ";d>e:", ";d-e:1/", ";d-e:1!$",
            ";d>e:1!$", ";d-e:1=$", ";t", ";td", ";tde", ";tdef", ";tdef:", ";x", ";xd", ";xde"};
        for (String last : lasts) {
            String text = filler(60 - last.length()) + last;
            is(60, text.length());
            is(-61, answer("", text));
            is(-61, answer("", text + "1"));
            is(-61, answer("", text + "f;xabc"));
            is(-61, answer("", text + "?".repeat(40)));
        }
    }

    static void sixtySignsThatStand() {
        start("4: 60 signs that could end");
        String[] lasts = {";d-e:1", ";d>e:1", ";d-e:10", ";d-e:1/2", ";d-e:1/20", ";d-e:1!", ";d-e:1=", ";d>e:1!",
            ";d-e:1!$9", ";d-e:1=$1", ";tdef:1", ";tdef:01", ";xdef"};
        for (String last : lasts) {
            String text = filler(60 - last.length()) + last;
            int items = 1 + (int) text.chars().filter(c -> c == ';').count();
            is(60, text.length());
            is(items, answer("", text));
            is(-61, answer("", text + "1"));
            is(-61, answer("", text + ";"));
            is(-61, answer("", text + ";xabc"));
            is(-61, answer("", text + "\u0000".repeat(40)));
        }
    }

    static void wrongSignAheadOfTheSixtieth() {
        start("4: the sign at p, if p is below 60, though there are more");
        for (int p = 0; p < 60; p++) {
            String text = SIXTY.substring(0, p) + "?" + SIXTY.substring(p + 1);
            is(-1 - p, answer("", text));
            is(-1 - p, answer("", text + SIXTY.substring(0, 40)));
        }
    }

    // ---- promise 4: too many

    static final String EIGHT_SERVED = "a-b:1!;b-c:1!;c-d:1!;d-e:1!;e-f:1!;f-g:1!;g-h:1!;h-i:1!";

    static void tenServices() {
        start("4: at most 10 SERVICES");
        is(2, answer(EIGHT_SERVED, "i-j:1!;j-k:1!"));
        is(1, answer(EIGHT_SERVED, "i-j:1="));
        is(2, answer(EIGHT_SERVED, "i-j:1=;j-k:1"));
        is(-100, answer(EIGHT_SERVED, "i-j:1!;j-k:1!;k-l:1!"));
        is(-100, answer(EIGHT_SERVED, "i-j:1!;j-k:1="));
        is(-100, answer(EIGHT_SERVED, "i-j:1=;j-k:1!"));
        is(-100, answer(EIGHT_SERVED, "xabc;i-j:1=;j>k:1!"));
        is(5, answer("", "a-b:1=;b-c:1=;c-d:1=;d-e:1=;e-f:1="));
        is(-100, answer("", "a-b:1=;b-c:1=;c-d:1=;d-e:1=;e-f:1=;g-h:1!"));
        is(-100, answer("", "a-b:1=;b-c:1=;c-d:1=;d-e:1=;e-f:1=;f-g:1=;g-h:1=;h-i:1="));
    }

    static final String TEN_STREETS = "a-b:1;a-c:1;a-d:1;a-e:1;a-f:1;a-g:1;a-h:1;a-i:1;a-j:1;a-k:1";

    static void eighteenStreets() {
        start("4: at most 18 STREETS");
        is(8, answer(TEN_STREETS, "b-c:1;b-d:1;b-e:1;b-f:1;b-g:1;b-h:1;b-i:1;b-j:1"));
        is(-100, answer(TEN_STREETS, "b-c:1;b-d:1;b-e:1;b-f:1;b-g:1;b-h:1;b-i:1;b-j:1;b-k:1"));
        is(-100, answer(TEN_STREETS, "b-c:1;b-d:1;b-e:1;b-f:1;b-g:1;b-h:1;b-i:1;b-j:1;b>k:9"));
        is(-100, answer(TEN_STREETS, "xabc;" + TEN_STREETS.replace('a', 'l').substring(0, 53)));
        is(9, answer(TEN_STREETS, "b-c:1;b-d:1;b-e:1;b-f:1;b-g:1;b-h:1;b-i:1;b-j:1;tabc:9"));
    }

    static void fullTowns() {
        start("4: a full TOWN takes TURNS still");
        is(10, tell(TEN_STREETS));
        is(8, tell("b-c:1=;b-d:1=;b-e:1=;b-f:1=;b-g:1=;b-h:1;b-i:1;b-j:1"));
        is(18, e.count(0));
        is(10, e.count(1));
        is(-100, tell("k-l:1"));
        is(-100, tell("k-l:1!"));
        is(-100, tell("tabc:1;k>l:1"));
        is(0, e.count(5));
        is(12, tell("xabc;xabd;xabe;xabf;xabg;xabh;xabi;xabj;xabk;xabl;xbac;xbad"));
        is(12, e.count(5));
        is(2, tell("tabc:99;xlkl"));
        is(13, e.count(5));
        is(99, e.turn(0, 1, 2));
        is(-1, e.turn(11, 10, 11));
        is(18, e.count(0));
        is(10, e.count(1));
        is(0, e.count(7));
    }

    // ---- promise 4: what is told, and what is not

    static void leastAndGreatestNumbers() {
        start("4: MINUTES 1 and 99, LOAD 1 and 9, TURNS of 0 and 99");
        is(2, tell("a-b:1/99=$1;k>l:99!$9"));
        is(3, tell("tabc:0;tabd:00;tabe:99"));
        is(1, e.street(0, 2));
        is(99, e.street(0, 3));
        is(1, e.street(0, 5));
        is(99, e.street(1, 2));
        is(-1, e.street(1, 3));
        is(9, e.street(1, 5));
        is(0, e.turn(0, 1, 2));
        is(0, e.turn(0, 1, 3));
        is(99, e.turn(0, 1, 4));
    }

    static void withoutWhatIsLeftOut() {
        start("4: without it as many back, without it LOAD 1, without ! and = none");
        is(4, tell("a-b:12;b-c:13!;c-d:14=;d>e:15!"));
        int[][] due = {{12, 12, 0, 0}, {13, 13, 1, 1}, {14, 14, 2, 1}, {15, -1, 1, 1}};
        for (int s = 0; s < 4; s++) {
            for (int what = 2; what <= 5; what++) {
                is(due[s][what - 2], e.street(s, what));
            }
        }
        is(4, e.count(1));
    }

    static void turnsToldAgain() {
        start("4: a TURN told again is in its place, barred or not");
        is(1, tell("tabc:5"));
        is(1, tell("xabc"));
        is(-1, e.turn(0, 1, 2));
        is(1, tell("tabc:0"));
        is(0, e.turn(0, 1, 2));
        is(3, tell("tabc:7;xabc;tabc:8"));
        is(8, e.turn(0, 1, 2));
        is(1, e.count(5));
    }

    /** Something of all that can be kept or be emptied. */
    static void tellAll() {
        is(3, tell("a-b:10!;b-c:3!;c-a:4"));
        yes(e.ahead(0, 1));
        hand("ab");
        is(1, e.add(0, false));
        is(1, e.prove(1, 2));
        yes(e.shut(2, true));
        is(2500, e.busy(2, 1, 200, 0));
        yes(e.open(0, 20, 30));
        yes(e.straight(0, 1, 2));
        is(0, e.back(8));
        for (int i = 0; i < 3; i++) {
            yes(e.keep(i));
        }
        is(0, e.judge());
    }

    static void townEmptiesThese() {
        start("4: told, THE HAND, THE ORDER and THE PROOF are empty, and nothing is kept");
        tellAll();
        is(1, tell("tcba:1"));
        is(0, e.count(3));
        is(0, e.count(4));
        is(0, e.count(10));
        for (int i = 0; i < 3; i++) {
            no(e.again(i));
        }
        is(-1, e.judge());
        is(-1, e.order());
        is(0, e.worth());
    }

    static void townLeavesThese() {
        start("4: told, all other things are as they were");
        tellAll();
        is(1, tell("tcba:1"));
        rowIs(10, 1);
        is(8, e.count(2));
        is(1, e.count(9));
        is(1, e.street(2, 6));
        is(1, e.service(1, 3));
        hand("ab");
        is(40, e.timed(0));
        rowIs(20);
        hand("abc");
        is(0, e.card());
    }

    static void failedTownsTellNothing() {
        String[] failing = {"", "?", "d-e:5;", "tabc:9;?", "d-e:5!;e-f", "d-e:1=;e-f:1=;f-g:1=;g-h:1=;h-i:1=",
            filler(59) + ";?"};
        int[] dues = {-1, -1, -7, -8, -11, -100, -61};
        for (int i = 0; i < failing.length; i++) {
            start("4: nothing is told by \"" + failing[i] + "\"");
            tellAll();
            is(dues[i], tell(failing[i]));
            is(0, e.count(7));
            is(3, e.count(0));
            is(2, e.count(1));
            is(0, e.count(5));
            is(2, e.count(3));
            is(1, e.count(4));
            is(1, e.count(10));
            rowIs(10, 1);
            yes(e.again(0));
            yes(e.again(2));
            is(40, e.timed(0));
        }
    }

    static void firstServicesAndStreets() {
        start("4: corners a and l, the first STREET and the first SERVICE");
        is(2, tell("l>a:1;a-k:1="));
        is(11, e.street(0, 0));
        is(0, e.street(0, 1));
        is(0, e.street(1, 0));
        is(10, e.street(1, 1));
        is(1, e.service(0, 0));
        is(1, e.service(1, 0));
        is(-1, e.service(2, 0));
    }

    public static void main(String[] args) {
        newObjectHasNothing();
        newObjectRefusesWhatWantsStreets();
        newObjectAtFirst();
        objectsAreApart();
        fourSignsEachTime();
        moreThanHundredSigns();
        highestByteFirst();
        signsOfAnyByte();
        refusedSignsDoNotCome();
        endOfTexts();
        firstSignsStay();
        signsOfStreets();
        signsOfTurns();
        signsBehindItems();
        secondCornersThatHaveAStreet();
        textsThatEndTooEarly();
        sixtySignsAndMore();
        sixtySignsThatEndTooEarly();
        sixtySignsThatStand();
        wrongSignAheadOfTheSixtieth();
        tenServices();
        eighteenStreets();
        fullTowns();
        leastAndGreatestNumbers();
        withoutWhatIsLeftOut();
        turnsToldAgain();
        townEmptiesThese();
        townLeavesThese();
        failedTownsTellNothing();
        firstServicesAndStreets();
        finish("TextBoundaryTests");
    }
}
