import java.io.IOException;
import java.lang.reflect.Constructor;
import java.lang.reflect.Field;
import java.lang.reflect.Method;
import java.lang.reflect.Modifier;
import java.nio.file.Files;
import java.nio.file.Path;
import java.util.ArrayList;
import java.util.HashSet;
import java.util.List;
import java.util.Set;
import java.util.TreeSet;
import java.util.regex.Matcher;
import java.util.regex.Pattern;

/** The class's face is the document's, and its source keeps to what ../shared/LANGUAGE.md can be read for. */
public final class LanguageTests {
    static int checks;
    static int faults;

    static final String[] FACE = {
        "int sign(int)", "boolean end(int)", "int town()", "int back(int)", "int street(int,int)",
        "int between(int,int)", "int turn(int,int,int)", "int service(int,int)", "boolean ahead(int,int)",
        "boolean shut(int,boolean)", "int line()", "int far(int,int)", "int pair()", "int floor()",
        "int cut(int)", "int prove(int,int)", "int worth()", "int drop()", "int level()", "int best(int,int)",
        "int some(int,int)", "int bars(int)", "int give(int)", "int go(int)", "boolean undo(int)",
        "int judge()", "int rest()", "int timed(int)", "int busy(int,int,int,int)",
        "boolean open(int,int,int)", "int soonest(int,int)", "int add(int,boolean)", "int order()",
        "int build()", "int better()", "int pass(int,int)", "int carts(int,int,int,int)", "int parts(int)",
        "boolean straight(int,int,int)", "int card()", "int mislead(int)", "boolean keep(int)",
        "boolean again(int)", "int count(int)", "int row(int)",
    };

    static void yes(String what, boolean is) {
        checks++;
        if (!is) {
            faults++;
            System.out.println(what);
        }
    }

    static void face() {
        yes("the class is public and final", EveryStreet.class.getModifiers() == (Modifier.PUBLIC | Modifier.FINAL));
        Set<String> due = new TreeSet<>(List.of(FACE));
        Set<String> got = new TreeSet<>();
        Set<String> names = new HashSet<>();
        for (Method m : EveryStreet.class.getDeclaredMethods()) {
            if (Modifier.isPublic(m.getModifiers())) {
                got.add(signature(m));
                names.add(m.getName());
                yes(signature(m) + " is of the object", !Modifier.isStatic(m.getModifiers()));
                boolean throwing = m.getExceptionTypes().length > 0;
                yes(signature(m) + " names its exception", throwing == m.getName().equals("row"));
            }
        }
        yes("public methods: due " + due + ", are " + got, due.equals(got));
        for (Method m : EveryStreet.class.getDeclaredMethods()) {
            boolean hidden = Modifier.isPrivate(m.getModifiers()) || m.isSynthetic();
            yes(m + " is public or private", hidden || Modifier.isPublic(m.getModifiers()));
            yes(m + " has a name of its own", !hidden || !names.contains(m.getName()));
        }
        for (Field f : EveryStreet.class.getDeclaredFields()) {
            boolean none = f.getName().equals("NONE");
            yes(f + " is private", none == Modifier.isPublic(f.getModifiers()));
            yes(f + " is private", none || Modifier.isPrivate(f.getModifiers()));
            yes(f + " is final", Modifier.isFinal(f.getModifiers()));
        }
        Constructor<?>[] made = EveryStreet.class.getDeclaredConstructors();
        yes("one constructor", made.length == 1 && Modifier.isPublic(made[0].getModifiers()));
        inside(names);
    }

    static void inside(Set<String> names) {
        Class<?>[] classes = EveryStreet.class.getDeclaredClasses();
        yes("at most twelve classes", classes.length <= 11);
        yes("twenty fields at most", fieldsOf(EveryStreet.class) <= 20);
        for (Class<?> c : classes) {
            yes(c + " is static and not public", Modifier.isStatic(c.getModifiers()) && !Modifier.isPublic(c.getModifiers()));
            yes(c + " has twenty fields at most", fieldsOf(c) <= 20);
            for (Method m : c.getDeclaredMethods()) {
                yes(m + " has a name of its own", !names.contains(m.getName()));
                yes(m + " takes seven at most", m.getParameterCount() <= 7);
            }
            for (Field f : c.getDeclaredFields()) {
                int mods = f.getModifiers();
                yes(f + " is no state of all", !Modifier.isStatic(mods) || Modifier.isFinal(mods));
            }
        }
    }

    static int fieldsOf(Class<?> c) {
        int fields = 0;
        for (Field f : c.getDeclaredFields()) {
            fields += Modifier.isStatic(f.getModifiers()) ? 0 : 1;
        }
        return fields;
    }

    static String signature(Method m) {
        List<String> types = new ArrayList<>();
        for (Class<?> type : m.getParameterTypes()) {
            types.add(type.getName());
        }
        return m.getReturnType().getName() + " " + m.getName() + "(" + String.join(",", types) + ")";
    }

    static void source() throws IOException {
        String text = Files.readString(Path.of("src/main/java/EveryStreet.java"));
        yes("signs are plain", text.chars().allMatch(c -> c == '\n' || c >= 32 && c < 127));
        String code = text.replaceAll("(?s)/\\*.*?\\*/", "").replaceAll("//[^\n]*", "");
        Set<String> imports = new HashSet<>();
        Matcher m = Pattern.compile("import ([^;]+);").matcher(code);
        while (m.find()) {
            imports.add(m.group(1));
        }
        yes("imports", imports.equals(Set.of("java.util.Arrays", "java.util.NoSuchElementException")));
        String[] barred = {"->", "::", "\\bassert\\b", "\\bfinally\\b", "\\bsynchronized\\b", "\\btry\\b",
            "\\bcatch\\b", "\\binstanceof\\b", "\\bvar\\b", "Exact\\b", "System\\.(?!arraycopy)", "\\bRandom\\b",
            "\\bThread\\b", "\\bpackage\\b", "\\bprotected\\b", "\\bnative\\b", "\"", "\\bfloat\\b",
            "\\bdouble\\b", "Arrays\\.(?!fill|copyOf)", "Math\\.(?!max|min|abs)", "\\bstatic \\{"};
        for (String bad : barred) {
            yes("no " + bad, !Pattern.compile(bad).matcher(code).find());
        }
        Matcher thrown = Pattern.compile("throw new (\\w+)\\(").matcher(code);
        int throwing = 0;
        while (thrown.find()) {
            throwing++;
            yes("throws what the document names", thrown.group(1).equals("NoSuchElementException"));
        }
        yes("one throw", throwing == 1);
        lengths(text);
    }

    /** By the indents of the file: four in the class, eight in those inside. */
    static void lengths(String text) {
        String[] lines = text.split("\n");
        for (int i = 0; i < lines.length; i++) {
            yes("line " + (i + 1) + " is short", lines[i].length() <= 120);
            Matcher m = Pattern.compile("^( {4}| {8})[^ /].*\\) (throws \\w+ )?\\{$").matcher(lines[i]);
            if (m.find()) {
                int end = i;
                while (end < lines.length && !lines[end].equals(m.group(1) + "}")) {
                    end++;
                }
                yes("sixty lines at most: " + lines[i], end - i < 60);
            }
        }
    }

    public static void main(String[] args) throws IOException {
        face();
        source();
        System.out.println("LanguageTests: " + checks + " checks, " + faults + " faults");
        if (faults > 0) {
            System.exit(1);
        }
    }
}
