import java.io.File;
import java.io.IOException;
import java.lang.reflect.Method;
import java.lang.reflect.Modifier;
import java.nio.file.Files;
import java.nio.file.Path;
import java.util.ArrayList;
import java.util.List;
import java.util.Set;
import java.util.TreeSet;
import java.util.regex.Matcher;
import java.util.regex.Pattern;
import java.util.stream.Collectors;
import java.util.stream.Stream;

/** README.md answers as it says: its Java blocks become one program, its commands are run. */
public final class ReadmeTests {
    static final Pattern MADE = Pattern.compile("EveryStreet \\w+ = new EveryStreet\\(\\);");
    static final Pattern CALL = Pattern.compile("((?:(\\w+)\\.(\\w+)|tell)\\((.*)\\)); +// (.*)");
    static final Pattern SAID = Pattern.compile(
        "(-?\\d+|true|false|throws NoSuchElementException)(?:; ROW((?: -?\\d+)+))?(?:[:;] .+)?");
    static final Path README = Path.of("README.md");
    static final Path TESTS = Path.of("src/test/java");

    static int checks;
    static int faults;
    static final List<String> methods = new ArrayList<>();
    static final List<String> body = new ArrayList<>();
    static final List<List<String>> commands = new ArrayList<>();
    static final Set<String> called = new TreeSet<>();

    static void yes(String what, boolean is) {
        checks++;
        if (!is) {
            faults++;
            System.out.println("not so: " + what);
        }
    }

    /** Sorts the lines between ``` and ``` into methods, calls, and commands. */
    static void read() throws IOException {
        String kind = "";
        List<String> block = new ArrayList<>();
        for (String line : Files.readAllLines(README)) {
            if (!line.startsWith("```")) {
                if (!kind.isEmpty()) {
                    block.add(line);
                }
            } else if (kind.isEmpty()) {
                kind = line.substring(3);
                block = new ArrayList<>();
            } else {
                take(kind, block);
                kind = "";
            }
        }
        yes("the last block ends", kind.isEmpty());
    }

    static void take(String kind, List<String> block) {
        if (kind.equals("sh")) {
            commands.add(block);
        } else if (!kind.equals("java") || block.isEmpty()) {
            yes("README's blocks are of java or sh, and not empty: " + kind, false);
        } else if (block.get(0).startsWith("static ")) {
            methods.addAll(block);
        } else {
            for (String line : block) {
                takeCall(line);
            }
        }
    }

    static void takeCall(String line) {
        if (MADE.matcher(line).matches()) {
            body.add(line);
            return;
        }
        Matcher call = CALL.matcher(line);
        Matcher said = call.matches() ? SAID.matcher(call.group(5)) : null;
        if (said == null || !said.matches()) {
            yes("README shows a call with its answer: " + line, false);
            return;
        }
        if (call.group(3) != null) {
            called.add(call.group(3));
        }
        String town = call.group(2) == null ? call.group(4).replaceAll(",.*", "") : call.group(2);
        String row = said.group(2) == null ? "null" : quoted(said.group(2));
        body.add("try { got = \"\" + " + call.group(1) + "; }");
        body.add("catch (RuntimeException e) { got = \"throws \" + e.getClass().getSimpleName(); }");
        body.add("compare(" + quoted(line) + ", " + quoted(said.group(1)) + ", got, " + row + ", " + town + ");");
    }

    static String quoted(String text) {
        return '"' + text.replace("\\", "\\\\").replace("\"", "\\\"") + '"';
    }

    static String program() {
        return String.join("\n",
            "public final class Shown {",
            "static int faults;",
            "static void compare(String line, String due, String got, String row, EveryStreet of) {",
            "    StringBuilder has = new StringBuilder();",
            "    for (int i = 0; row != null && i < of.count(6); i++) { has.append(' ').append(of.row(i)); }",
            "    if (!due.equals(got) || row != null && !row.equals(has.toString())) {",
            "        faults++;",
            "        System.out.println(\"README: \" + line + \" answered \" + got + \", ROW\" + has);",
            "    }",
            "}",
            String.join("\n", methods),
            "public static void main(String[] args) {",
            "String got;",
            String.join("\n", body),
            "System.exit(faults > 0 ? 1 : 0);",
            "}}", "");
    }

    static void calls(Path dir) throws IOException, InterruptedException {
        Path source = dir.resolve("Shown.java");
        Files.writeString(source, program());
        String out = dir.toString();
        int compiled = run(dir, "javac", "-Xlint:all", "-d", out, "src/main/java/EveryStreet.java", source.toString());
        yes("README's calls can be compiled", compiled == 0);
        yes("README's calls answer as it says", compiled == 0 && run(dir, "java", "-cp", out, "Shown") == 0);
        checks += body.size() / 3;
        Set<String> face = Stream.of(EveryStreet.class.getDeclaredMethods())
            .filter(m -> Modifier.isPublic(m.getModifiers())).map(Method::getName)
            .collect(Collectors.toCollection(TreeSet::new));
        face.removeAll(called);
        yes("README shows each call of the face, also " + face, face.isEmpty());
    }

    /** .ci/run is what runs this test: run from here it would never end. */
    static void commands(Path dir) throws IOException, InterruptedException {
        int alone = 0;
        int all = 0;
        for (List<String> block : commands) {
            String script = String.join("\n", block);
            if (script.equals(".ci/run")) {
                yes(".ci/run can be run", Files.isExecutable(Path.of(".ci/run")));
                all++;
            } else if (script.contains(".ci")) {
                yes("README runs .ci/run alone: " + script, false);
            } else if (isThere(script)) {
                yes("README's commands run: " + script, run(dir, "sh", "-e", "-c", script) == 0);
                alone++;
            }
        }
        yes("README tells how to run all tests, and one alone", all == 1 && alone > 0);
    }

    /** Whether the tests under ../shared that a script names are there: they come and go without this project. */
    static boolean isThere(String script) {
        Matcher hers = Pattern.compile("\\.\\./shared/tests/\\w+\\.java").matcher(script);
        boolean there = true;
        while (hers.find()) {
            there &= Files.exists(Path.of(hers.group()));
        }
        return there;
    }

    /** What a command makes for the time being goes into the folder told. */
    static int run(Path dir, String... command) throws IOException, InterruptedException {
        ProcessBuilder builder = new ProcessBuilder(command).inheritIO();
        builder.environment().put("TMPDIR", dir.toString());
        return builder.start().waitFor();
    }

    static void delete(File file) {
        File[] inside = file.listFiles();
        for (int i = 0; inside != null && i < inside.length; i++) {
            delete(inside[i]);
        }
        file.delete();
    }

    /** README's list of tests, and the tests there are. */
    static void list() throws IOException {
        Set<String> told = new TreeSet<>();
        Matcher name = Pattern.compile("`(\\w+Tests)`").matcher(Files.readString(README));
        while (name.find()) {
            told.add(name.group(1));
        }
        Set<String> are = new TreeSet<>();
        for (File file : TESTS.toFile().listFiles()) {
            are.add(file.getName().replace(".java", ""));
        }
        yes("README names the tests " + are + " (it names " + told + ")", are.equals(told));
    }

    public static void main(String[] args) throws IOException, InterruptedException {
        Path dir = Files.createTempDirectory("readme");
        try {
            read();
            calls(dir);
            commands(dir);
            list();
        } finally {
            delete(dir.toFile());
        }
        System.out.println("ReadmeTests: " + checks + " checks, " + faults + " faults");
        if (faults > 0) {
            System.exit(1);
        }
    }
}
