import java.util.NoSuchElementException;

/**
 * Runs of drawn calls with ordinary and wild arguments: nothing but row() throws, all ends, a refused call
 * changes nothing that can be asked for, and the same calls give the same answers.
 */
public final class RefusalTests {
    static final int[] WILD = {-1, 12, 18, 60, 99, 100, 400, 1024, 1439, 1440, 4095, 4096, -2, -100,
        Integer.MAX_VALUE, Integer.MIN_VALUE, 1 << 30, 65536};
    static int checks;
    static int faults;
    static long seed;

    static int draw(int below) {
        seed = seed * 6364136223846793005L + 1442695040888963407L;
        return (int) ((seed >>> 33) % below);
    }

    static int number(int most) {
        return draw(6) == 0 ? WILD[draw(WILD.length)] : draw(most);
    }

    static void fault(String text) {
        faults++;
        if (faults < 30) {
            System.out.println(text);
        }
    }

    static String drawText() {
        StringBuilder text = new StringBuilder();
        int items = 1 + draw(draw(3) == 0 ? 9 : 3);
        for (int i = 0; i < items; i++) {
            text.append(i == 0 ? "" : ";");
            char a = (char) ('a' + draw(8));
            char b = (char) ('a' + (a - 'a' + 1 + draw(draw(20) == 0 ? 8 : 7)) % 8);
            char c = (char) ('a' + (b - 'a' + 1 + draw(7)) % 8);
            switch (draw(5)) {
                case 0:
                    text.append('t').append(a).append(b).append(c).append(':').append(draw(40));
                    break;
                case 1:
                    text.append('x').append(a).append(b).append(c);
                    break;
                default:
                    text.append(a).append(draw(3) == 0 ? '>' : '-').append(b).append(':').append(1 + draw(30));
                    text.append(new String[] {"", "!", "=", "/7!", "!$4", "=$2", "/3"}[draw(7)]);
            }
        }
        if (draw(12) == 0) {
            text.setCharAt(draw(text.length()), (char) draw(256));
        }
        return text.toString();
    }

    static int tell(EveryStreet e, String text) {
        for (int i = 0; i < text.length(); i += 4) {
            int v = 0;
            for (int j = 0; j < 4; j++) {
                v = v << 8 | (i + j < text.length() ? text.charAt(i + j) : 0);
            }
            e.sign(v);
        }
        e.end(Math.min(text.length(), e.count(7)));
        return e.town();
    }

    /** All that can be asked without telling anything. */
    static String ask(EveryStreet e) {
        StringBuilder all = new StringBuilder();
        for (int what = 0; what <= 10; what++) {
            all.append(e.count(what)).append(' ');
        }
        for (int i = 0; i < e.count(6); i++) {
            all.append(e.row(i)).append(',');
        }
        for (int s = 0; s < e.count(0); s++) {
            for (int what = 0; what < 7; what++) {
                all.append(e.street(s, what)).append(' ');
            }
        }
        for (int s = 0; s < e.count(1); s++) {
            for (int what = 0; what < 4; what++) {
                all.append(e.service(s, what)).append(' ');
            }
        }
        for (int i = 0; i < e.count(4); i++) {
            all.append(e.pass(i, 0)).append(e.pass(i, 1)).append(' ');
        }
        for (int a = 0; a < 8; a++) {
            for (int b = 0; b < 8; b++) {
                for (int c = 0; c < 8; c++) {
                    all.append(e.turn(a, b, c)).append(' ');
                }
            }
        }
        for (int i = 0; i < 8; i++) {
            all.append(e.mislead(i)).append(' ');
        }
        return all.append(e.worth()).append(' ').append(e.floor()).toString();
    }

    static int truth(boolean is) {
        return is ? 1 : -1;
    }

    /** A drawn call; its answer, of booleans 1 or -1. */
    static int call(EveryStreet e, int which) {
        switch (which) {
            case 0: return e.sign(draw(2) == 0 ? 0x612d623a : draw(1 << 30));
            case 1: return truth(e.end(number(20)));
            case 2: return e.back(number(100));
            case 3: return truth(e.ahead(number(6), number(6)));
            case 4: return truth(e.shut(number(8), draw(2) == 0));
            case 5: return e.line();
            case 6: return e.far(number(12), number(12));
            case 7: return e.pair();
            case 8: return e.cut(number(4096));
            case 9: return e.prove(number(4096), number(100));
            case 10: return e.drop();
            case 11: return e.level();
            case 12: return e.best(number(9), number(9));
            case 13: return e.some(number(9), number(1 << Math.min(10, e.count(1))));
            case 14: return e.bars(number(9));
            case 15: return e.give(number(9));
            case 16: return e.go(number(9));
            case 17: return truth(e.undo(number(8)));
            case 18: return e.judge();
            case 19: return e.rest();
            case 20: return e.timed(number(1440));
            case 21: return e.busy(number(4), number(25), number(300), number(50));
            case 22: return truth(e.open(number(9), number(1440), number(1440)));
            case 23: return e.soonest(number(9), number(1440));
            case 24: return e.add(number(10), draw(2) == 0);
            case 25: return e.order();
            case 26: return e.build();
            case 27: return e.better();
            case 28: return e.carts(number(9), number(5), number(30), number(2));
            case 29: return e.parts(number(5));
            case 30: return truth(e.straight(number(9), number(9), number(10) - 1));
            case 31: return e.card();
            case 32: return truth(e.keep(number(3)));
            case 33: return truth(e.again(number(3)));
            case 34: return e.turn(number(12), number(12), number(12));
            case 35: return e.pass(number(10), number(3));
            case 36: return e.service(number(10), number(5));
            case 37: return e.street(number(18), number(8));
            case 38: return e.between(number(12), number(12));
            case 39: return e.mislead(number(10));
            case 40: return e.count(number(12));
            default: return e.row(number(6));
        }
    }

    static String run(long from, boolean asking) {
        seed = from;
        EveryStreet e = new EveryStreet();
        StringBuilder answers = new StringBuilder();
        int calls = 60;
        for (int i = 0; i < calls; i++) {
            if (draw(14) == 0 || i < 4) {
                answers.append('T').append(tell(e, drawText())).append(' ');
                continue;
            }
            int which = draw(42);
            String before = asking ? ask(e) : "";
            long at = seed;
            try {
                int answer = call(e, which);
                answers.append(answer).append(' ');
                checks++;
                if (asking && answer == -1 && !before.equals(ask(e))) {
                    fault("call " + which + " was refused and changed something, run " + from + " at " + at);
                }
            } catch (NoSuchElementException due) {
                answers.append("throws ");
                if (which != 41) {
                    fault("call " + which + " throws, run " + from);
                }
            } catch (RuntimeException machine) {
                fault("call " + which + " throws " + machine + ", run " + from);
            }
        }
        return answers.toString();
    }

    /** Calls that tell the ROW at most. */
    static boolean isQuestion(int which) {
        return which >= 5 && which <= 8 || which >= 11 && which <= 15 || which >= 18 && which <= 20
                || which == 23 || which == 25 || which == 28 || which == 29 || which == 31 || which >= 34;
    }

    static String answersAtEnd(EveryStreet e) {
        StringBuilder all = new StringBuilder();
        int[] answers = {e.order(), e.rest(), e.best(1, 2), e.some(0, 0), e.give(1), e.bars(2), e.level(),
            e.soonest(0, 9), e.timed(0), e.carts(1, 2, 20, 1), e.card(), e.judge(), e.build(), e.better()};
        for (int answer : answers) {
            all.append(answer).append(' ');
        }
        return all.toString();
    }

    /** The same calls with and without questions between: the same answers at the end. */
    static void askOrNot(long from) {
        String[] ends = new String[2];
        for (int round = 0; round < 2; round++) {
            EveryStreet e = new EveryStreet();
            for (int i = 0; i < 60; i++) {
                seed = from + 1000003L * i;
                draw(2);
                if (draw(20) == 0 || i < 5) {
                    tell(e, drawText());
                    continue;
                }
                int which = draw(41);
                if (round == 0 || !isQuestion(which)) {
                    call(e, which);
                }
            }
            ends[round] = answersAtEnd(e);
        }
        checks++;
        if (!ends[0].equals(ends[1])) {
            fault("questions between change answers, run " + from + ": " + ends[0] + "and " + ends[1]);
        }
    }

    public static void main(String[] args) {
        int runs = args.length > 0 ? Integer.parseInt(args[0]) : 1500;
        for (int i = 1; i <= runs; i++) {
            String once = run(i * 7919L, true);
            if (!once.equals(run(i * 7919L, false))) {
                fault("run " + i + " answers otherwise when nothing is asked between");
            }
            askOrNot(i * 104729L);
        }
        System.out.println("RefusalTests: " + checks + " checks, " + faults + " faults");
        if (faults > 0) {
            System.exit(1);
        }
    }
}
