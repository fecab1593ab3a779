/** Each promise of the document by hand: ordinary calls, the edges it names, refused calls. */
public final class PromiseTests extends Check {
    static void p1() {
        start("1 a new object");
        is(-1, EveryStreet.NONE);
        for (int what = 0; what <= 10; what++) {
            is(0, e.count(what));
        }
        is(-1, e.street(0, 0));
        is(-1, e.service(0, 0));
        is(-1, e.pass(0, 0));
        is(0, e.worth());
    }

    static void p2() {
        start("2 sign");
        is(4, e.sign('a' << 24 | '-' << 16 | 'b' << 8 | ':'));
        is(8, e.sign('5' << 24));
        yes(e.end(5));
        is(1, e.town());
        is(5, e.street(0, 2));
        for (int i = 1; i <= 25; i++) {
            is(4 * i, e.sign(-1));
        }
        is(-1, e.sign(0));
        is(100, e.count(7));
        yes(e.end(97));
        is(-1, e.sign(0));
        yes(e.end(96));
        is(100, e.sign(0));
        is(-1, e.town());
        is(0, e.count(7));
    }

    static void p3() {
        start("3 end");
        yes(e.end(0));
        no(e.end(1));
        sign("a-b:12!x");
        no(e.end(9));
        no(e.end(-1));
        no(e.end(Integer.MIN_VALUE));
        is(8, e.count(7));
        yes(e.end(8));
        yes(e.end(6));
        no(e.end(7));
        is(1, e.town());
        is(12, e.street(0, 2));
        is(0, e.street(0, 4));
    }

    static void p4() {
        start("4 town");
        is(-1, tell(""));
        is(1, tell("a-b:10/20=$9"));
        is(20, e.street(0, 3));
        is(3, tell("c>d:99!$1;tabc:07;xcba"));
        is(-1, e.street(1, 3));
        is(7, e.turn(0, 1, 2));
        is(-3, tell("b-a:1"));
        is(-9, tell("e-f:1;f>e:1"));
        is(-9, tell("e-f:1;e-f:1"));
        is(-8, tell("e-f:1!$"));
        is(-9, tell("e-f:1;e-e:1"));
        is(-6, tell("e>f:1/2"));
        is(-6, tell("e>f:1="));
        is(-6, tell("e-f:1$"));
        is(-7, tell("e-f:1!="));
        is(-9, tell("e-f:1!$12"));
        is(-2, tell("e=f:1"));
        is(-5, tell("e-f:0"));
        is(-7, tell("e-f:1/0"));
        is(-4, tell("e-f;"));
        is(-1, tell(";e-f:1"));
        is(-1, tell("e-f:1".toUpperCase()));
        is(-1, tell("y"));
        is(-2, tell("tm"));
        is(-3, tell("taa"));
        is(-4, tell("xabb"));
        is(1, tell("xaba"));
        is(-1, e.turn(0, 1, 0));
        is(-6, tell("tabc:x"));
        is(-6, tell("e-f:1\u0000"));
        is(-1, tell("\u00e1-f:1"));
        is(2, e.count(0));
        is(0, e.count(7));
        tooLongTexts();
        tooMany();
        whatTownClears();
    }

    static void tooLongTexts() {
        start("4 town, long texts");
        String ten = "a-b:1;a-c:1;a-d:1;a-e:1;a-f:1;a-g:1;a-h:1;a-i:1;a-j:1;a-k:1";
        is(-61, tell(ten + ";"));
        is(-61, tell(ten + "2;"));
        is(-61, tell(ten + "2!"));
        is(-61, tell(ten + ";a-l:1"));
        is(-61, tell("xabc;" + ten.substring(0, 53) + ";l-"));
        is(-59, tell("xabc;" + ten.substring(0, 53) + ":12345"));
        is(-6, tell("a-b:1?" + ten));
        is(0, e.count(0));
        is(10, tell(ten + "!"));
        is(10, e.count(0));
        is(1, e.count(1));
    }

    static void tooMany() {
        start("4 town, too many");
        is(5, tell("a-b:1=;a-c:1=;a-d:1=;a-e:1=;a-f:1="));
        is(-100, tell("b-c:1!"));
        is(-100, tell("b-c:1;b-d:1="));
        is(-5, tell("b-c:!"));
        is(5, e.count(0));
        is(10, e.count(1));
        is(9, tell("b-c:1;b-d:1;b-e:1;b-f:1;b-g:1;b-h:1;b-i:1;b-j:1;b-k:1"));
        is(-100, tell("c-d:1;c-e:1;c-f:1;c-g:1;c-h:1"));
        is(14, e.count(0));
        is(4, tell("c-d:1;c-e:1;c-f:1;c-g:1"));
        is(18, e.count(0));
        is(-100, tell("c-h:1"));
        is(-3, tell("c-a:1"));
        is(1, tell("xabc"));
    }

    static void whatTownClears() {
        start("4 town clears");
        tell("a-b:4!;b-c:5");
        e.back(3);
        e.shut(1, true);
        hand("ab");
        e.add(0, false);
        e.prove(1, 1);
        e.keep(0);
        e.judge();
        is(-1, tell("?"));
        is(-100, tell("c-d:1=;d-e:1=;e-f:1=;f-g:1=;g-h:1="));
        is(2, e.count(3));
        is(1, e.count(4));
        is(1, e.count(10));
        yes(e.again(0));
        is(1, tell("xcbc"));
        is(0, e.count(3));
        is(0, e.count(4));
        is(0, e.count(10));
        no(e.again(0));
        is(3, e.count(2));
        is(1, e.street(1, 6));
        rowIs(4, 1);
    }

    static void p5() {
        start("5 back");
        is(0, e.back(99));
        is(99, e.back(0));
        is(0, e.back(7));
        is(-1, e.back(100));
        is(-1, e.back(-1));
        is(7, e.count(2));
        is(7, e.turn(0, 1, 0));
        is(0, e.turn(0, 1, 2));
        tell("taba:2;xbcb");
        is(2, e.turn(0, 1, 0));
        is(-1, e.turn(1, 2, 1));
    }

    static void p6() {
        start("6 street");
        tell("c-b:12/3=$4;a>c:7!;d-c:5");
        int[] first = {2, 1, 12, 3, 2, 4, 0};
        int[] second = {0, 2, 7, -1, 1, 1, 0};
        int[] third = {3, 2, 5, 5, 0, 0, 0};
        for (int what = 0; what < 7; what++) {
            is(first[what], e.street(0, what));
            is(second[what], e.street(1, what));
            is(third[what], e.street(2, what));
        }
        is(-1, e.street(0, 7));
        is(-1, e.street(0, -1));
        is(-1, e.street(3, 0));
        is(-1, e.street(-1, 0));
        e.shut(2, true);
        is(1, e.street(2, 6));
    }

    static void p7() {
        start("7 between");
        tell("c-b:1;a>l:1");
        is(0, e.between(1, 2));
        is(0, e.between(2, 1));
        is(1, e.between(11, 0));
        is(-1, e.between(0, 1));
        is(-1, e.between(2, 2));
        is(-1, e.between(12, 0));
        is(-1, e.between(0, -1));
    }

    static void p8() {
        start("8 turn");
        is(5, tell("tabc:5;tabc:6;xabd;tabd:9;xlkj"));
        is(6, e.turn(0, 1, 2));
        is(9, e.turn(0, 1, 3));
        is(-1, e.turn(11, 10, 9));
        is(0, e.turn(9, 10, 11));
        is(3, e.count(5));
        is(1, tell("xabc"));
        is(-1, e.turn(0, 1, 2));
        is(3, e.count(5));
        is(-1, e.turn(0, 0, 1));
        is(-1, e.turn(0, 1, 1));
        is(-1, e.turn(12, 1, 0));
        is(-1, e.turn(0, -1, 0));
        is(-1, e.turn(0, 1, 12));
    }

    static void p9() {
        start("9 service");
        tell("a-b:1;b-c:1=$3;c>d:1!;d-e:1!$9");
        is(4, e.count(1));
        int[][] due = {{1, 1, 3, 0}, {1, 2, 3, 0}, {2, 0, 1, 0}, {3, 0, 9, 0}};
        for (int i = 0; i < 4; i++) {
            for (int what = 0; what < 4; what++) {
                is(due[i][what], e.service(i, what));
            }
        }
        e.ahead(0, 3);
        e.ahead(2, 3);
        is(5, e.service(3, 3));
        is(-1, e.service(4, 0));
        is(-1, e.service(-1, 0));
        is(-1, e.service(0, 4));
        is(-1, e.service(0, -1));
    }

    static void p10() {
        start("10 ahead");
        no(e.ahead(0, 1));
        tell("a-b:1!;b-c:1!;c-d:1!;d-a:1!");
        yes(e.ahead(0, 1));
        yes(e.ahead(0, 1));
        yes(e.ahead(1, 2));
        yes(e.ahead(2, 3));
        no(e.ahead(3, 0));
        no(e.ahead(2, 0));
        no(e.ahead(1, 0));
        no(e.ahead(2, 2));
        no(e.ahead(4, 0));
        no(e.ahead(0, -1));
        is(0, e.service(0, 3));
        is(4, e.service(3, 3));
        yes(e.ahead(0, 3));
        is(5, e.service(3, 3));
        is(4, e.best(0, 0));
        rowIs(0, 1, 2, 3, 0);
        is(8, e.best(2, 2));
        rowIs(2, 1, 0, 1, 2, 3, 0, 1, 2);
        start("10 ahead, by the first one");
        tell("a-b:1!;b-c:1!;c-d:1!");
        yes(e.ahead(2, 0));
        yes(e.ahead(0, 1));
        no(e.ahead(1, 2));
    }

    static void p11() {
        start("11 shut");
        tell("a-b:1!;b-c:1");
        yes(e.shut(0, true));
        yes(e.shut(0, true));
        is(1, e.count(9));
        is(-2, e.best(0, 0));
        yes(e.shut(1, true));
        is(2, e.count(9));
        yes(e.shut(0, false));
        is(1, e.count(9));
        is(2, e.best(0, 0));
        no(e.shut(2, true));
        no(e.shut(-1, false));
    }

    static void p12() {
        start("12 line");
        tell("b-c:1!;c-d:1!;d-b:1!;d-e:1;a-b:1");
        is(3, e.line());
        rowIs(1, 2, 3, 1);
        tell("d-f:1=;xbcd");
        e.shut(0, true);
        is(5, e.line());
        rowIs(1, 2, 3, 5, 3, 1);
        start("12 line, one way");
        tell("b>a:1!;c>b:1!;a>c:1!");
        is(3, e.line());
        rowIs(0, 2, 1, 0);
        tell("d>e:1!;e>d:1");
        is(3, e.line());
        tell("c>d:1!;c>e:1!");
        is(-2, e.line());
        rowIs(3, 4);
        start("12 line, none");
        is(0, e.line());
        tell("a-b:1=");
        is(2, e.line());
        rowIs(0, 1, 0);
        tell("c-d:1=");
        is(-2, e.line());
        rowIs();
        is(-1, e.best(-1, 0));
        start("12 line, row stays");
        tell("a-b:2");
        is(2, e.best(0, 1));
        is(0, e.line());
        rowIs(0, 1);
    }

    static void p13() {
        start("13 far");
        tell("a>b:9;b-c:7/2;a-d:3;d>c:4;xabc");
        is(9, e.far(1, 0));
        is(9, e.far(0, 1));
        is(7, e.far(0, 2));
        is(6, e.far(1, 3));
        e.shut(1, true);
        is(2, e.far(2, 1));
        is(0, e.far(11, 11));
        is(-1, e.far(0, 11));
        is(-1, e.far(0, 12));
        is(-1, e.far(-1, 0));
    }

    static void p14() {
        start("14 pair");
        is(0, e.pair());
        tell("a-b:5!;b-c:1;c-d:5!;d-a:1");
        is(15, e.count(8));
        is(2, e.pair());
        rowIs(0, 3, 1, 2);
        start("14 pair, equal sums");
        tell("a-b:1!;c-d:1!;a-c:1;b-d:1");
        is(2, e.pair());
        rowIs(0, 1, 2, 3);
        start("14 pair, no way");
        tell("a-b:1;c-d:3!");
        is(3, e.pair());
        rowIs(2, 3);
        tell("a-e:4=");
        is(3, e.pair());
        tell("f-g:2!;g-h:2!");
        is(7, e.pair());
        rowIs(2, 3, 5, 7);
        start("14 pair, none odd");
        tell("a-b:1!;b-c:1!;c-a:1!;d-e:2");
        e.best(0, 0);
        is(0, e.pair());
        rowIs();
    }

    static void p15() {
        start("15 floor");
        is(0, e.floor());
        tell("a-b:5/3!;b-c:2=;c>d:9!");
        is(3 + 4 + 9 + 12, e.floor());
        rowIs();
        is(12, e.pair());
        rowIs(0, 1, 2, 3);
        is(28, e.floor());
        rowIs(0, 1, 2, 3);
    }

    static void p16() {
        start("16 cut");
        tell("a-b:5/3!;b-c:2;c>d:9");
        is(3, e.cut(1));
        is(2, e.cut(2));
        is(0, e.cut(3));
        is(0, e.cut(0));
        is(0, e.cut(4095));
        is(2, e.cut(1 | 4 | 8));
        is(-1, e.cut(4096));
        is(-1, e.cut(-1));
        e.shut(0, true);
        is(3, e.cut(1));
        start("16 cut, nothing leaves");
        tell("a-b:1!");
        is(0, e.cut(3));
        is(1, e.cut(1));
        is(1, e.cut(1 | 2048));
    }

    static void p17() {
        start("17 prove");
        is(-1, e.prove(-1, 1));
        is(-1, e.prove(4096, 1));
        is(-1, e.prove(1, 0));
        is(-1, e.prove(1, 100));
        is(0, e.count(10));
        for (int i = 1; i <= 12; i++) {
            is(i, e.prove(i == 1 ? 0 : 4095, i == 2 ? 99 : 1));
        }
        is(-1, e.prove(1, 1));
        is(12, e.count(10));
    }

    static void p18() {
        start("18 worth");
        tell("a-b:5/3!;b-c:2!;c>d:9!");
        is(0, e.worth());
        e.prove(1, 3);
        is(3, e.worth());
        e.prove(3, 2);
        is(5, e.worth());
        e.prove(2, 1);
        is(-2, e.worth());
        e.drop();
        e.prove(3, 3);
        is(-3, e.worth());
        e.drop();
        e.prove(8, 9);
        e.prove(16, 50);
        is(9, e.worth());
        e.prove(8, 1);
        is(-4, e.worth());
        start("18 worth, even cuts are borne too");
        tell("a-b:2!;b-c:2!");
        e.prove(2, 2);
        is(0, e.worth());
        e.prove(1, 1);
        is(-2, e.worth());
    }

    static void p19() {
        start("19 drop");
        is(0, e.drop());
        e.prove(1, 1);
        e.prove(1, 1);
        is(2, e.drop());
        is(0, e.count(10));
        is(1, e.prove(1, 1));
    }

    static void p20() {
        start("20 level");
        tell("a-b:1/9!;b-c:1/9!;c-a:1/9!");
        is(3, e.level());
        rowIs(0, 0, 0);
        start("20 level, back");
        tell("b-a:9/1!;b>c:1!;c-a:5!;xbca");
        is(7, e.level());
        rowIs(1, 0, 0);
        e.ahead(2, 0);
        is(7, e.level());
        start("20 level, each way");
        tell("a-b:2=;b-c:3!");
        is(10, e.level());
        rowIs(0, 1, 0);
        e.shut(0, true);
        is(-2, e.level());
        rowIs(0, 1, 0);
        start("20 level, dead end");
        tell("a>b:1!");
        is(-2, e.level());
        tell("c-b:4;c>a:3");
        is(8, e.level());
        e.shut(1, true);
        is(-2, e.level());
        start("20 level, parts need not hang together");
        tell("a-b:2!;c-d:3!");
        is(10, e.level());
        rowIs(0, 0);
        start("20 level, no services");
        tell("a-b:2");
        e.best(0, 1);
        is(0, e.level());
        rowIs();
    }

    static void p21() {
        start("21 best");
        tell("a-b:2!;b-c:3;c-a:4;xaba");
        is(9, e.best(0, 0));
        rowIs(0, 1, 2, 0);
        is(2, e.best(0, 1));
        rowIs(0, 1);
        is(2, e.best(1, 0));
        is(5, e.best(0, 2));
        is(-2, e.best(0, 3));
        is(-2, e.best(3, 3));
        is(-1, e.best(0, 12));
        is(-1, e.best(-1, 0));
        rowIs(0, 1, 2);
        start("21 best, first of equal rows");
        tell("a-b:1;a-c:1;b-d:1;c-d:1!;d-a:2");
        is(4, e.best(0, 0));
        rowIs(0, 1, 3, 2, 0);
        tell("tbdc:1;tdca:0");
        is(4, e.best(0, 0));
        rowIs(0, 2, 3, 0);
        start("21 best, long row");
        tell("a>b:1;b>c:1;c>d:1;d>e:1;e>f:1;f>g:1;g>h:1;h>i:1;i>j:1;j>a:1!");
        tell("k>b:1!");
        is(-2, e.best(0, 0));
        start("21 best, over 120");
        tell("a>b:1!;b>c:1!;c>d:1!;d>e:1!;e>f:1!;f>g:1!;g>h:1!;h>i:1!");
        tell("i>j:1;j>k:1!;k>l:1!;l>a:1");
        for (int i = 0; i + 1 < 10; i++) {
            yes(e.ahead(i + 1, i));
        }
        is(120, e.best(0, 0));
        is(120, e.count(6));
        is(0, e.row(108));
        is(11, e.row(119));
    }

    static void p22() {
        start("22 some");
        tell("a-b:2!;b-c:3!;c-a:4!");
        is(0, e.some(0, 0));
        rowIs(0);
        is(4, e.some(0, 1));
        rowIs(0, 1, 0);
        is(9, e.some(0, 7));
        is(8, e.some(2, 4));
        is(-1, e.some(0, 8));
        is(-1, e.some(0, -1));
        is(-1, e.some(12, 1));
        is(6, e.some(1, 2));
        yes(e.ahead(2, 0));
        yes(e.ahead(0, 1));
        is(4, e.some(0, 1));
        is(9, e.some(0, 3));
        rowIs(0, 1, 2, 0);
        is(-2, e.some(3, 1));
        rowIs(0, 1, 2, 0);
    }

    static void p23() {
        start("23 bars");
        is(-2, e.bars(0));
        tell("a-b:1!;b-c:1!;xaba;xabc;xbcb");
        is(-1, e.bars(0));
        is(-1, e.bars(12));
        is(-1, e.bars(-1));
        start("23 bars, one corner");
        tell("a-b:1!;b-c:1!;xabc;xbcb");
        is(-1, e.bars(0));
        is(2, e.bars(1));
        tell("tbcb:3");
        is(1, e.bars(0));
        is(-2, e.bars(1));
        is(-1, e.bars(3));
        start("23 bars, shut and ahead");
        tell("a>b:1!;b>c:1!;c>a:1!;xbca");
        is(2, e.bars(0));
        e.ahead(2, 0);
        is(2, e.bars(0));
        e.shut(2, true);
        is(-1, e.bars(0));
        start("23 bars, a far first street");
        tell("a>b:1!;b-c:1;c-d:1;d-a:1");
        is(-2, e.bars(2));
        start("23 bars, ahead among three");
        tell("a>b:1!;b>c:1!;c>a:1!;xcab");
        is(-2, e.bars(0));
        yes(e.ahead(2, 1));
        is(0, e.bars(0));
        is(0, e.bars(2));
        is(-1, e.bars(3));
    }

    static void p24() {
        start("24 give");
        is(0, e.give(0));
        rowIs(0);
        tell("a-b:1!;b-c:1!;d-e:1!");
        is(1, e.give(0));
        rowIs(4);
        is(2, e.give(3));
        rowIs(3);
        is(3, e.give(5));
        rowIs(7);
        e.shut(0, true);
        is(3, e.give(0));
        is(2, e.give(1));
        rowIs(5);
        is(-1, e.give(12));
        is(-1, e.give(-1));
        rowIs(5);
        start("24 give, of as few the least bits");
        tell("a>b:1!;b>c:1!;c>a:1!;xabc;xcab;xbca");
        is(3, e.give(0));
        start("24 give, ahead among those left");
        tell("a-b:1!;d-e:1!");
        e.ahead(1, 0);
        is(1, e.give(0));
        rowIs(2);
    }

    static void p25() {
        start("25 go");
        is(-1, e.go(12));
        is(-1, e.go(-1));
        is(1, e.go(11));
        is(-1, e.go(11));
        tell("a-b:1;b>c:1;xaba");
        is(1, e.go(0));
        is(-1, e.go(0));
        is(-1, e.go(2));
        is(2, e.go(1));
        is(3, e.go(2));
        is(-1, e.go(1));
        yes(e.undo(2));
        e.shut(1, true);
        is(-1, e.go(2));
        is(2, e.count(3));
        for (int i = 3; i <= 60; i++) {
            is(i, e.go(i % 2 == 1 ? 0 : 1));
        }
        is(-1, e.go(0));
        is(60, e.count(3));
    }

    static void p26() {
        start("26 undo");
        yes(e.undo(0));
        no(e.undo(1));
        tell("a-b:1!");
        hand("aba");
        no(e.undo(4));
        no(e.undo(-1));
        is(3, e.count(3));
        yes(e.undo(3));
        yes(e.undo(1));
        is(1, e.count(3));
        e.judge();
        rowIs(0, 0);
        yes(e.undo(0));
        is(1, e.go(1));
    }

    static void p27() {
        start("27 judge");
        is(-1, e.judge());
        tell("a-b:5/2!;b-c:7=;tabc:6;xcba;xbcb");
        e.back(4);
        hand("a");
        is(0, e.judge());
        rowIs(0, 0);
        hand("abab");
        is(0, e.judge());
        rowIs(5 + 4 + 2 + 4 + 5, 1);
        hand("abcba");
        is(-4, e.judge());
        rowIs(5 + 6 + 7 + 7 + 2, 7);
        hand("cba");
        is(-3, e.judge());
        rowIs(7 + 2, 5);
        e.ahead(0, 2);
        e.judge();
        rowIs(9, 1);
        e.shut(0, true);
        is(-3, e.judge());
        rowIs(9, 1);
    }

    static void p28() {
        start("28 rest");
        is(-1, e.rest());
        tell("a-b:2!;b-c:3!;c-a:4;tabc:5;xbab");
        hand("a");
        is(9, e.rest());
        rowIs(0, 2, 1, 0);
        hand("ab");
        is(11, e.rest());
        rowIs(1, 0, 2, 1, 0);
        hand("abc");
        is(4, e.rest());
        rowIs(2, 0);
        hand("abca");
        is(0, e.rest());
        rowIs(0);
        hand("cba");
        is(4, e.rest());
        rowIs(0, 2);
        hand("aba");
        e.shut(2, true);
        is(-2, e.rest());
        rowIs(0, 2);
        start("28 rest, hand's last street shut");
        tell("a-b:2!;b-c:3;c-a:4;tabc:5");
        hand("ab");
        e.shut(0, true);
        is(12, e.rest());
        rowIs(1, 2, 0);
    }

    static void p29() {
        start("29 timed");
        is(-1, e.timed(0));
        tell("a-b:10;b-c:30;c-a:50;tabc:5;xbca");
        hand("a");
        is(1439, e.timed(1439));
        rowIs();
        is(-1, e.timed(1440));
        is(-1, e.timed(-1));
        hand("abcb");
        is(75, e.timed(0));
        rowIs(0, 0, 0);
        e.busy(2, 2, 150, -100);
        is(15 + 5 + 45 + 15, e.timed(0));
        e.open(1, 30, 100);
        is(30 + 45 + 15, e.timed(0));
        rowIs(0, 10, 0);
        is(105, e.timed(65));
        rowIs(0, 0, 0);
        is(-4, e.timed(90));
        is(-3, e.timed(91));
        e.open(1, 0, 1439);
        is(1440, e.timed(1365));
        is(-4, e.timed(1366));
        rowIs(0, 0, 0);
        is(-2, e.timed(1431));
        hand("abca");
        is(-4, e.timed(0));
        start("29 timed, hundredths are rounded up");
        tell("a-b:1");
        hand("ab");
        e.busy(2, 1, 101, 0);
        is(2, e.timed(0));
        is(61, e.timed(60));
    }

    static void p30() {
        start("30 busy");
        is(2400, e.busy(2, 0, 7, 7));
        is(24 * 400, e.busy(2, 24, 401, 0));
        is(24, e.busy(2, 24, 0, -5));
        is(200 + 210 + 2200, e.busy(2, 2, 200, 10));
        is(-2, e.busy(0, -1, 0, 0));
        is(-2, e.busy(2, Integer.MIN_VALUE, 0, 0));
        is(-1, e.busy(4, 1, 1, 1));
        is(-1, e.busy(-1, 1, 1, 1));
        is(-1, e.busy(2, 25, 1, 1));
        is(-1, e.busy(3, 25, 1, 1));
        tell("a-b:10");
        hand("ab");
        is(20, e.timed(0));
        is(60 + 21, e.timed(60));
        is(130, e.timed(120));
        is(-3, e.busy(3, -7, 5, 5));
        is(10, e.timed(0));
        is(1 + 127 + 2200, e.busy(0, 2, 128, -1));
        is(44 + 2300, e.busy(0, 1, 300, 0));
        is(1 + 2300, e.busy(1, 1, 40000, 0));
        is(300 + 2300, e.busy(1, 1, 65536 + 300, 0));
        is(400 + 1 + 2200, e.busy(2, 2, Integer.MAX_VALUE, 1));
        is(127 + 1 + 2200, e.busy(0, 2, 127, 1));
        e.busy(2, 24, 100, 10);
        is(1380 + 33, e.timed(1380));
        is(1379 + 32, e.timed(1379));
    }

    static void p31() {
        start("31 open");
        no(e.open(0, 0, 0));
        tell("a-b:10");
        hand("ab");
        yes(e.open(0, 30, 30));
        is(40, e.timed(30));
        is(40, e.timed(0));
        is(-2, e.timed(31));
        no(e.open(0, 31, 30));
        no(e.open(0, -1, 30));
        no(e.open(0, 0, 1440));
        no(e.open(1, 0, 1));
        no(e.open(-1, 0, 1));
        is(40, e.timed(30));
        yes(e.open(0, 0, 1439));
        is(41, e.timed(31));
    }

    static void p32() {
        start("32 soonest");
        is(77, e.soonest(0, 77));
        tell("a-b:30!;b-c:5");
        is(60, e.soonest(0, 0));
        is(1440, e.soonest(0, 1380));
        is(-2, e.soonest(0, 1381));
        is(-2, e.soonest(3, 0));
        is(-1, e.soonest(0, 1440));
        is(-1, e.soonest(0, -1));
        is(-1, e.soonest(12, 0));
        e.busy(2, 2, 400, -399);
        is(60 + 1 + 1, e.soonest(0, 0));
        e.open(0, 0, 59);
        is(-2, e.soonest(0, 60));
        is(-2, e.soonest(0, 0));
        e.open(0, 70, 1439);
        is(72, e.soonest(0, 0));
        e.back(8);
        is(80, e.soonest(0, 0));
        tell("xaba");
        is(81, e.soonest(2, 0));
        e.shut(1, true);
        is(-2, e.soonest(2, 0));
        start("32 soonest, open for one minute");
        tell("a>b:5!;b>c:1;c>a:1");
        e.open(0, 70, 70);
        is(77, e.soonest(0, 0));
        is(77, e.soonest(0, 70));
        is(-2, e.soonest(0, 71));
    }

    static void p33() {
        start("33 add");
        is(-1, e.add(0, false));
        tell("a-b:1!;b>c:1!;c-d:1=");
        is(1, e.add(0, true));
        is(-1, e.add(0, false));
        is(-1, e.add(1, true));
        e.shut(1, true);
        is(2, e.add(1, false));
        is(-1, e.add(2, true));
        is(-1, e.add(3, false));
        is(3, e.add(3, true));
        is(4, e.add(2, false));
        is(-1, e.add(4, false));
        is(-1, e.add(-1, false));
        is(4, e.count(4));
        is(3, e.pass(2, 0));
        is(1, e.pass(2, 1));
    }

    static void p34() {
        start("34 order");
        is(-1, e.order());
        tell("a-b:2/5!;b-c:3!;c-a:4;tabc:7");
        e.add(0, false);
        is(2, e.order());
        e.add(1, false);
        is(12, e.order());
        e.shut(2, true);
        is(12, e.order());
        e.shut(1, true);
        is(-2, e.order());
        start("34 order, ways between are lawful");
        tell("a-b:2/5!;b-c:3!;c-a:4;xabc");
        e.add(0, false);
        e.add(1, false);
        is(2 + 5 + 4 + 3 + 3, e.order());
        tell("xaba;xbab");
        is(-1, e.order());
        e.add(0, false);
        e.add(1, true);
        is(-2, e.order());
    }

    static void p35() {
        start("35 build");
        is(-1, e.build());
        tell("a-b:5/2!;c-d:1!;b-c:1");
        is(4, e.build());
        is(2, e.count(4));
        is(1, e.pass(0, 0));
        is(1, e.pass(0, 1));
        is(0, e.pass(1, 0));
        is(1, e.pass(1, 1));
        is(4, e.order());
        e.shut(2, true);
        is(-2, e.build());
        is(1, e.pass(0, 0));
        start("35 build, first place, as told");
        tell("a-b:1!;c-d:1!;a-c:1;b-d:1;a-d:1;b-c:1");
        is(3, e.build());
        is(1, e.pass(0, 0));
        is(0, e.pass(0, 1));
        is(0, e.pass(1, 0));
        is(0, e.pass(1, 1));
    }

    static void p36() {
        start("36 better");
        is(-1, e.better());
        tell("a-b:1!;b-c:1!;c-d:1!;d-a:1!");
        e.add(0, false);
        e.add(2, false);
        e.add(1, false);
        e.add(3, false);
        is(1, e.better());
        is(4, e.order());
        is(0, e.better());
        e.shut(0, true);
        is(-2, e.better());
        start("36 better, one pass turned round");
        tell("a-b:1!;b-c:1!");
        e.add(0, true);
        e.add(1, false);
        is(1, e.better());
        is(0, e.pass(0, 0));
        is(0, e.pass(0, 1));
        is(2, e.order());
        start("36 better, swap ahead of move");
        tell("a>b:1!;b>c:1!;c>a:1");
        e.add(1, false);
        e.add(0, false);
        is(1, e.better());
        is(0, e.pass(0, 0));
        is(1, e.pass(1, 0));
        start("36 better, one alone");
        tell("a-b:9/1!");
        e.add(0, false);
        is(1, e.better());
        is(1, e.pass(0, 1));
        is(1, e.order());
    }

    static void p37() {
        start("37 pass");
        tell("a-b:1!;b-c:1!");
        is(-1, e.pass(0, 0));
        e.add(1, true);
        is(1, e.pass(0, 0));
        is(1, e.pass(0, 1));
        is(-1, e.pass(0, 2));
        is(-1, e.pass(0, -1));
        is(-1, e.pass(1, 0));
        is(-1, e.pass(-1, 0));
    }

    static void p38() {
        start("38 carts");
        is(0, e.carts(0, 3, 1, 1));
        rowIs(0, 0, 0);
        tell("a-b:1!$2;a-c:2!$3;a-d:4=$2");
        is(14, e.carts(0, 1, 99, 0));
        rowIs(15);
        is(14, e.carts(0, 1, 9, 1));
        is(-2, e.carts(0, 1, 8, 0));
        is(14, e.carts(0, 2, 5, 0));
        rowIs(3, 12);
        is(8, e.carts(0, 2, 99, 1));
        rowIs(3, 12);
        is(8, e.carts(0, 3, 4, 1));
        rowIs(1, 2, 12);
        is(22, e.carts(0, 4, 3, 0));
        rowIs(1, 2, 4, 8);
        is(-2, e.carts(0, 3, 3, 0));
        is(-2, e.carts(5, 2, 99, 0));
        is(-1, e.carts(12, 1, 1, 0));
        is(-1, e.carts(0, 0, 1, 0));
        is(-1, e.carts(0, 5, 1, 0));
        is(-1, e.carts(0, 1, 0, 0));
        is(-1, e.carts(0, 1, 100, 0));
        is(-1, e.carts(0, 1, 1, 2));
        is(-1, e.carts(0, 1, 1, -1));
        rowIs(1, 2, 4, 8);
        is(11, e.parts(1));
        is(14, e.carts(0, 2, 99, 0));
        rowIs(0, 15);
        start("38 carts, ahead within a cart alone");
        tell("a-b:1!;a-c:1!;b-c:9");
        e.ahead(0, 1);
        is(4, e.carts(0, 2, 1, 0));
        rowIs(1, 2);
        is(4, e.carts(0, 1, 2, 0));
    }

    static void p39() {
        start("39 parts");
        is(-2, e.parts(1));
        tell("a-b:5/3!;b-c:4!;c-d:1=;e-f:2!");
        is(-2, e.parts(1));
        is(9, e.parts(2));
        rowIs(15, 16);
        is(6, e.parts(3));
        rowIs(1, 14, 16);
        is(4, e.parts(4));
        rowIs(1, 2, 12, 16);
        is(-1, e.parts(0));
        is(-1, e.parts(5));
        start("39 parts, none empty");
        tell("a-b:1!;b-c:1=");
        is(-2, e.parts(3));
        is(2, e.parts(2));
        rowIs(1, 6);
        is(3, e.parts(1));
        rowIs(7);
        start("39 parts, by their own corners");
        tell("a-b:1!;b-c:9!;c-d:1!");
        is(10, e.parts(2));
        rowIs(1, 6);
    }

    static void p40() {
        start("40 straight");
        no(e.straight(0, 1, 2));
        tell("a-b:1;b-c:1;b>d:1");
        yes(e.straight(0, 1, 2));
        no(e.straight(0, 1, 0));
        no(e.straight(0, 2, 1));
        no(e.straight(0, 1, 4));
        no(e.straight(0, 1, 12));
        no(e.straight(0, 1, -2));
        no(e.straight(12, 1, 2));
        no(e.straight(0, -1, 2));
        no(e.straight(3, 0, -1));
        hand("abc");
        is(0, e.card());
        yes(e.straight(0, 1, 3));
        is(1, e.card());
        yes(e.straight(0, 1, -1));
        yes(e.straight(3, 1, 0));
        is(1, e.card());
        yes(e.straight(0, 1, 2));
        is(0, e.card());
    }

    static void p41() {
        start("41 card");
        is(-1, e.card());
        tell("a-b:1;b-c:1;c-a:1;b-d:1");
        hand("a");
        is(0, e.card());
        rowIs();
        hand("abcabca");
        is(3, e.card());
        rowIs(0, 1, 2, 1, 2, 0, 2, 0, 1);
        e.straight(1, 2, 0);
        is(2, e.card());
        rowIs(0, 1, 2, 2, 0, 1);
        hand("abcabd");
        is(-6, e.card());
        rowIs(0, 1, 2, 2, 0, 1);
        hand("abcab");
        is(2, e.card());
        hand("abdbabcba");
        is(-2 - 5, e.card());
    }

    static void p42() {
        start("42 mislead");
        is(-1, e.mislead(0));
        tell("a-b:1;b-c:1;c-a:1;b-d:1");
        hand("abcabcb");
        is(-2 - 5, e.card());
        is(-1, e.mislead(0));
        hand("abcabca");
        e.straight(0, 1, 2);
        e.judge();
        is(2, e.mislead(0));
        is(3, e.mislead(1));
        is(-1, e.mislead(2));
        is(-1, e.mislead(-1));
        rowIs(6, 0);
        e.straight(0, 1, 3);
        is(1, e.mislead(0));
        hand("ab");
        is(-1, e.mislead(0));
    }

    static void p43() {
        start("43 keep");
        yes(e.keep(0));
        yes(e.keep(2));
        no(e.keep(3));
        no(e.keep(-1));
        e.back(5);
        yes(e.keep(1));
        yes(e.again(0));
        is(0, e.count(2));
        yes(e.again(1));
        is(5, e.count(2));
        e.back(6);
        yes(e.keep(1));
        e.back(7);
        yes(e.again(1));
        is(6, e.count(2));
    }

    static void p44() {
        start("44 again");
        no(e.again(0));
        no(e.again(3));
        no(e.again(-1));
        tell("a-b:10!;b-c:3!;c-a:4");
        hand("ab");
        e.add(0, false);
        e.prove(1, 2);
        e.shut(2, true);
        e.busy(2, 1, 200, 0);
        e.open(0, 20, 30);
        e.straight(0, 1, 2);
        e.back(8);
        yes(e.keep(1));
        no(e.again(0));
        no(e.again(2));
        for (int round = 0; round < 2; round++) {
            hand("ba");
            e.undo(0);
            e.add(1, true);
            e.drop();
            e.shut(2, false);
            e.shut(1, true);
            e.busy(3, 0, 0, 0);
            e.open(0, 0, 1439);
            e.straight(0, 1, -1);
            e.back(1);
            e.best(0, 1);
            int numbers = e.count(6);
            yes(e.again(1));
            is(numbers, e.count(6));
            is(2, e.count(3));
            is(1, e.count(4));
            is(0, e.pass(0, 0));
            is(1, e.count(10));
            is(2, e.worth());
            is(1, e.street(2, 6));
            is(0, e.street(1, 6));
            is(8, e.count(2));
            is(40, e.timed(0));
            rowIs(20);
            is(3, e.go(2));
            is(0, e.card());
            is(8, e.turn(0, 1, 0));
            is(13 + 13 + 8, e.best(0, 0));
        }
        yes(e.ahead(1, 0));
        yes(e.again(1));
        is(2, e.service(0, 3));
        is(1, tell("xabc"));
        no(e.again(1));
    }

    static void p45() {
        start("45 count");
        tell("a-b:1!;b-c:1=;c-d:1;tabc:1;xabd");
        is(3, e.count(0));
        is(3, e.count(1));
        e.back(9);
        is(9, e.count(2));
        hand("abc");
        is(3, e.count(3));
        e.add(1, false);
        is(1, e.count(4));
        is(2, e.count(5));
        e.judge();
        is(2, e.count(6));
        e.sign(0);
        is(4, e.count(7));
        is(3, e.count(8));
        e.shut(2, true);
        is(1, e.count(9));
        e.prove(0, 1);
        is(1, e.count(10));
        is(-1, e.count(11));
        is(-1, e.count(-1));
    }

    static void p46() {
        start("46 row");
        int[] wrong = {0, -1, 1, Integer.MAX_VALUE, Integer.MIN_VALUE};
        for (int i : wrong) {
            yes(noRow(i));
        }
        e.best(4, 4);
        is(4, e.row(0));
        for (int i : wrong) {
            yes(i == 0 || noRow(i));
        }
        is(1, e.count(6));
    }

    /** As many streets, services, cuts and corners as there can be. */
    static void pFull() {
        start("all full");
        is(8, tell("a-b:1!;b-c:1!;c-d:1!;d-e:1!;e-f:1!;f-g:1!;g-h:1!;h-i:1!"));
        is(8, tell("i-j:1!;j-a:1!;a-c:9;a-d:9;a-e:9;a-f:9;a-g:9;a-h:9"));
        is(2, tell("a-i:9;k-l:9"));
        is(-100, tell("l-a:1"));
        is(10, e.line());
        rowIs(0, 1, 2, 3, 4, 5, 6, 7, 8, 9, 0);
        is(10, e.best(0, 0));
        rowIs(0, 1, 2, 3, 4, 5, 6, 7, 8, 9, 0);
        is(10, e.level());
        rowIs(0, 0, 0, 0, 0, 0, 0, 0, 0, 0);
        is(0, e.pair());
        is(10, e.floor());
        is(0, e.cut(1));
        is(9, e.far(11, 10));
        is(10, e.soonest(0, 0));
        is(0, e.give(0));
        is(-2, e.bars(9));
        is(10, e.build());
        is(9, e.pass(0, 0));
        is(8, e.pass(9, 0));
        is(0, e.better());
        is(3, e.parts(4));
        rowIs(1, 14, 112, 896);
        is(20, e.carts(0, 2, 5, 0));
        rowIs(31, 992);
        is(10, e.carts(0, 2, 5, 1));
        rowIs(31, 992);
        for (int i = 1; i <= 12; i++) {
            is(i, e.prove(1024, 1));
        }
        is(-2 - 17, e.worth());
        pFullHand();
    }

    static void pFullHand() {
        for (int i = 1; i <= 60; i++) {
            is(i, e.go(i % 2 == 1 ? 0 : 1));
        }
        is(0, e.judge());
        rowIs(59, 1);
        is(9, e.rest());
        rowIs(1, 2, 3, 4, 5, 6, 7, 8, 9, 0);
        is(59, e.timed(0));
        is(59, e.count(6));
        is(2, e.card());
        is(1, e.mislead(0));
        is(2, e.mislead(1));
        yes(e.keep(2));
        yes(e.undo(0));
        yes(e.again(2));
        is(60, e.count(3));
        is(10, e.count(4));
        is(12, e.count(10));
        for (int i = 0; i < 18; i++) {
            yes(e.shut(i, true));
        }
        is(18, e.count(9));
        is(-2, e.best(0, 0));
        is(10, e.give(0));
        rowIs(1023);
    }

    public static void main(String[] args) {
        p1();
        p2();
        p3();
        p4();
        p5();
        p6();
        p7();
        p8();
        p9();
        p10();
        p11();
        p12();
        p13();
        p14();
        p15();
        p16();
        p17();
        p18();
        p19();
        p20();
        p21();
        p22();
        p23();
        p24();
        p25();
        p26();
        p27();
        p28();
        p29();
        p30();
        p31();
        p32();
        p33();
        p34();
        p35();
        p36();
        p37();
        p38();
        p39();
        p40();
        p41();
        p42();
        p43();
        p44();
        p45();
        p46();
        pFull();
        finish("PromiseTests");
    }
}
