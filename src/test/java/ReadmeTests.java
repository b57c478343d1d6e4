import java.io.IOException;
import java.lang.reflect.Method;
import java.lang.reflect.Modifier;
import java.nio.file.Files;
import java.nio.file.Path;
import java.util.ArrayList;
import java.util.Comparator;
import java.util.LinkedHashSet;
import java.util.List;
import java.util.Set;
import java.util.TreeSet;
import java.util.regex.Matcher;
import java.util.regex.Pattern;
import java.util.stream.Stream;

/** Follows README.md: its example and commands are run in a copy of the project, its tables held against the class. */
public final class ReadmeTests {
    private static final String CI = ".ci/run";

    private ReadmeTests() {
    }

    public static void main(String[] args) throws Exception {
        String readme = Files.readString(Path.of("README.md"));
        Path copy = Files.createTempDirectory("readme");
        try {
            Path project = copyOfProject(copy);
            example(readme, project);
            commands(readme, project);
        } finally {
            delete(copy);
        }
        callsTable(readme);
        refusals(readme);
        constants(readme);
        testsList(readme);
        Due.end();
    }

    private static void holds(String what, boolean does) {
        Due.is(what, does ? 1 : 0, 1);
    }

    /** The texts between fences of a kind. */
    private static List<String> blocks(String readme, String kind) {
        List<String> found = new ArrayList<>();
        Matcher m = Pattern.compile("(?ms)^```" + kind + "\n(.*?)^```$").matcher(readme);
        while (m.find()) {
            found.add(m.group(1));
        }
        return found;
    }

    /** The copy has the shared tests where the project has them, beside it. */
    private static Path copyOfProject(Path copy) throws IOException {
        copyTree(Path.of("src"), copy.resolve("project/src"));
        copyTree(Path.of("../shared/tests"), copy.resolve("shared/tests"));
        return copy.resolve("project");
    }

    private static void copyTree(Path from, Path to) throws IOException {
        try (Stream<Path> all = Files.walk(from)) {
            for (Path p : all.toList()) {
                Path there = to.resolve(from.relativize(p).toString());
                if (Files.isDirectory(p)) {
                    Files.createDirectories(there);
                } else {
                    Files.copy(p, there);
                }
            }
        }
    }

    private static void delete(Path tree) throws IOException {
        try (Stream<Path> all = Files.walk(tree)) {
            for (Path p : all.sorted(Comparator.reverseOrder()).toList()) {
                Files.delete(p);
            }
        }
    }

    private static int run(String commands, Path where, Path output) throws IOException, InterruptedException {
        ProcessBuilder shell = new ProcessBuilder("sh", "-e", "-c", commands);
        shell.directory(where.toFile()).redirectErrorStream(true).redirectOutput(output.toFile());
        return shell.start().waitFor();
    }

    private static void example(String readme, Path project) throws Exception {
        List<String> programs = blocks(readme, "java");
        List<String> outputs = blocks(readme, "text");
        List<String> shells = blocks(readme, "sh");
        boolean complete = programs.size() == 1 && outputs.size() == 1 && !shells.isEmpty();
        holds("an example, its commands and what it prints", complete);
        if (complete) {
            Files.writeString(project.resolve("Example.java"), programs.get(0));
            Path output = project.resolve("output");
            Due.is("the example's exit code", run(shells.get(0), project, output), 0);
            String printed = Files.readString(output);
            holds("the example prints what is told; it printed:\n" + printed, printed.equals(outputs.get(0)));
        }
    }

    /** All but the example's commands, and but .ci/run, which runs this test. */
    private static void commands(String readme, Path project) throws Exception {
        List<String> shells = blocks(readme, "sh");
        int ofCi = 0;
        for (String commands : shells.subList(Math.min(1, shells.size()), shells.size())) {
            if (commands.equals(CI + "\n")) {
                ofCi++;
            } else {
                Path output = project.resolve("output");
                int exit = run(commands, project, output);
                Due.is(commands + Files.readString(output) + "exit code", exit, 0);
            }
        }
        Due.is("commands that are " + CI, ofCi, 1);
        holds(CI + " can be run", Files.isExecutable(Path.of(CI)));
    }

    /** The columns of the table's line that begins with a call. */
    private static String[] lineOf(String readme, String call) {
        Matcher m = Pattern.compile("(?m)^\\| `" + call + "\\(([^)]*)\\)` \\|(.*)\\|(.*)\\|$").matcher(readme);
        return m.find() ? new String[] {m.group(1), m.group(2), m.group(3)} : new String[] {"", "", ""};
    }

    private static void callsTable(String readme) {
        Set<String> face = new TreeSet<>();
        for (Method m : SpreadRules.class.getDeclaredMethods()) {
            if (Modifier.isPublic(m.getModifiers())) {
                face.add(m.getName());
                String parameters = lineOf(readme, m.getName())[0];
                Due.is("parameters of " + m.getName(), parameters.isEmpty() ? 0 : parameters.split(",").length, m.getParameterCount());
            }
        }
        Set<String> told = new TreeSet<>();
        Matcher m = Pattern.compile("(?m)^\\| `(\\w+)\\(").matcher(readme);
        while (m.find()) {
            told.add(m.group(1));
        }
        holds("the table has the calls " + told + ", the class has " + face, told.equals(face));
    }

    /** What the table says that a call may answer else, against the document; FULL against the class. */
    private static void refusals(String readme) throws IOException {
        String document = Files.readString(Path.of("../shared/DOC.md"));
        Matcher m = Pattern.compile("(?ms)^## Promise \\d+: (\\w+)\n(.*?)^## ").matcher(document);
        int at = 0;
        int calls = 0;
        while (m.find(at)) {
            String told = lineOf(readme, m.group(1))[2].trim();
            String due = refusalsOf(m.group(2), makesTensor(m.group(1)));
            holds("else of " + m.group(1) + ": " + told + ", due: " + due, told.equals(due));
            calls++;
            at = m.end(2);
        }
        Due.is("calls of the document", calls, 17);
    }

    private static String refusalsOf(String promise, boolean mayBeFull) {
        String plain = promise.replaceAll("`[^`]*`", "").replaceAll("\\([^)]*\\)", "");
        Set<String> all = new LinkedHashSet<>();
        if (plain.contains("BAD")) {
            all.add("BAD");
        }
        if (mayBeFull) {
            all.add("FULL");
        }
        Matcher numbers = Pattern.compile("\\b[1-6]\\b").matcher(plain.replaceAll("(?s)^.*?(FAILURE|$)", ""));
        while (numbers.find()) {
            all.add("-1" + numbers.group());
        }
        return String.join(", ", all);
    }

    private static boolean makesTensor(String call) {
        SpreadRules x = Rows.full();
        switch (call) {
            case "tensor":
                return x.tensor(2) == SpreadRules.FULL;
            case "shaped":
                return x.shaped(2, 1, 1, 1) == SpreadRules.FULL;
            case "act":
                return x.act(0, 0, 0) == SpreadRules.FULL;
            case "one":
                return x.one(0, 0) == SpreadRules.FULL;
            case "cast":
                return x.cast(0, 2) == SpreadRules.FULL;
            case "where":
                return x.where(0, 0, 0) == SpreadRules.FULL;
            default:
                return false;
        }
    }

    private static void constants(String readme) {
        holds("BAD", readme.contains("| " + SpreadRules.BAD + ", `BAD` |"));
        holds("FULL", readme.contains("| " + SpreadRules.FULL + ", `FULL` |"));
        holds("NONE", readme.contains("| " + SpreadRules.NONE + ", `NONE` |"));
        for (int failure = 1; failure <= 6; failure++) {
            holds("FAILURE " + failure, readme.contains("| " + (-10 - failure) + " | FAILURE " + failure + ": "));
        }
    }

    private static void testsList(String readme) throws IOException {
        Set<String> files = new TreeSet<>();
        try (Stream<Path> all = Files.list(Path.of("src/test/java"))) {
            all.forEach(p -> files.add(p.getFileName().toString().replace(".java", "")));
        }
        Set<String> told = new TreeSet<>();
        String tests = readme.substring(Math.max(0, readme.indexOf("## How to run its tests")));
        Matcher m = Pattern.compile("`([A-Z][A-Za-z]+)`").matcher(tests);
        while (m.find()) {
            told.add(m.group(1));
        }
        holds("README.md tells of " + told + ", there are " + files, told.equals(files));
    }
}
