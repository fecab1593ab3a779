import java.util.ArrayList;
import java.util.List;
import java.util.NoSuchElementException;

/** What the tests by hand have in common: an object, calls by texts, answers that are due. */
abstract class Check {
    static int checks;
    static int faults;
    static String promise = "";
    static EveryStreet e = new EveryStreet();

    static void start(String name) {
        promise = name;
        e = new EveryStreet();
    }

    static void is(int due, int got) {
        checks++;
        if (due != got) {
            fault("due " + due + ", answered " + got);
        }
    }

    static void yes(boolean got) {
        checks++;
        if (!got) {
            fault("due true, answered false");
        }
    }

    static void no(boolean got) {
        checks++;
        if (got) {
            fault("due false, answered true");
        }
    }

    static void fault(String text) {
        faults++;
        int line = 0;
        for (StackTraceElement frame : new Throwable().getStackTrace()) {
            if (line == 0 && !frame.getClassName().equals("Check")) {
                line = frame.getLineNumber();
            }
        }
        System.out.println(promise + ", line " + line + ": " + text);
    }

    static void rowIs(int... due) {
        List<Integer> want = new ArrayList<>();
        for (int d : due) {
            want.add(d);
        }
        List<Integer> got = rowOf();
        checks++;
        if (!want.equals(got)) {
            fault("row due " + want + ", answered " + got);
        }
    }

    static List<Integer> rowOf() {
        List<Integer> got = new ArrayList<>();
        for (int i = 0; i < e.count(6); i++) {
            got.add(e.row(i));
        }
        return got;
    }

    static boolean noRow(int i) {
        try {
            e.row(i);
            return false;
        } catch (NoSuchElementException due) {
            return due.getClass() == NoSuchElementException.class;
        }
    }

    static void sign(String text) {
        sign(e, text);
    }

    /** At most 100 signs, behind an empty text. */
    static void sign(EveryStreet to, String text) {
        for (int i = 0; i < text.length(); i += 4) {
            int v = 0;
            for (int j = 0; j < 4; j++) {
                v = v << 8 | (i + j < text.length() ? text.charAt(i + j) : 0);
            }
            to.sign(v);
        }
        to.end(text.length());
    }

    static int tell(String text) {
        sign(text);
        return e.town();
    }

    static void hand(String corners) {
        e.undo(0);
        for (int i = 0; i < corners.length(); i++) {
            is(i + 1, e.go(corners.charAt(i) - 'a'));
        }
    }

    static void finish(String name) {
        System.out.println(name + ": " + checks + " checks, " + faults + " faults");
        if (faults > 0) {
            System.exit(1);
        }
    }
}
