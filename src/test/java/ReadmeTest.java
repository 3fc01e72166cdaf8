import java.io.File;
import java.io.IOException;
import java.nio.charset.StandardCharsets;
import java.nio.file.Files;
import java.nio.file.Path;
import java.util.ArrayList;
import java.util.Comparator;
import java.util.List;
import java.util.Set;
import java.util.TreeSet;
import java.util.regex.Matcher;
import java.util.regex.Pattern;
import java.util.stream.Stream;

/**
 * Does what README.md says: runs its Java, where each call must show its answer, and its commands, these in a copy of
 * the project that holds what a clean checkout holds.
 */
public final class ReadmeTest {
    /** Set for the commands, so that the .ci/run among them leaves this test out. */
    private static final String INSIDE = "TYPELOCK_README_TEST";
    private static final Pattern BLOCK = Pattern.compile("(?m)^```([a-z]+)\n(.*?)^```$", Pattern.DOTALL);
    private static final Pattern ANSWERED = Pattern.compile("([a-z]+\\(.*\\)|lock\\.[a-z]+\\(.*\\));  // (-?\\d+|true|false)(: .+)?");
    private static final String MAKING = "TypeLock lock = new TypeLock();";
    private static final String[] REFUSALS = {"-1", "-2", "-3", "-4", "false"};

    private ReadmeTest() {
    }

    public static void main(String[] args) throws Exception {
        Path root = Path.of(args.length > 0 ? args[0] : ".").toRealPath();
        String readme = Files.readString(root.resolve("README.md"));
        Path room = Files.createTempDirectory("readme");
        try {
            runUse(blocks(readme, "java"), room);
            runCommands(blocks(readme, "sh"), root, room);
        } finally {
            clear(room);
        }
        dueTold(readme, Files.readString(root.resolve("../shared/DOC.md")));
        dueTestsNamed(readme, root.resolve("src/test/java"));
        Due.end("ReadmeTest");
    }

    private static List<String> blocks(String readme, String language) {
        List<String> blocks = new ArrayList<>();
        for (Matcher block = BLOCK.matcher(readme); block.find();) {
            if (block.group(1).equals(language)) {
                blocks.add(block.group(2));
            }
        }
        Due.due("README.md shows some " + language, blocks.isEmpty(), false);
        return blocks;
    }

    // ---- The calls and their answers

    private static void runUse(List<String> blocks, Path room) throws Exception {
        StringBuilder methods = new StringBuilder();
        StringBuilder rows = new StringBuilder();
        Set<String> answers = new TreeSet<>();
        for (String block : blocks) {
            if (block.startsWith("static ")) {
                methods.append(block);
            } else {
                block.lines().forEach(row -> rows.append(checked(row.strip(), answers)).append('\n'));
            }
        }
        for (String refusal : REFUSALS) {
            Due.due("README.md shows a call that answers " + refusal, answers.contains(refusal), true);
        }
        Path source = room.resolve("ReadmeUse.java");
        Files.writeString(source, "final class ReadmeUse {\n" + methods + "public static void main(String[] args) {\n" + rows
                + "Due.end(\"ReadmeUse\");\n}\n}\n");
        String path = System.getProperty("java.class.path");
        String classes = room.resolve("classes").toString();
        Path here = Path.of(".");
        dueRuns(List.of("javac", "-cp", path, "-d", classes, source.toString()), here);
        dueRuns(List.of("java", "-ea", "-cp", path + File.pathSeparator + classes, "ReadmeUse"), here);
    }

    /** A row of README.md's Java as it is run: a call is looked at whether it answers what stands behind it. */
    private static String checked(String row, Set<String> answers) {
        Matcher call = ANSWERED.matcher(row);
        if (call.matches()) {
            answers.add(call.group(2));
            String name = call.group(1).replace("\\", "\\\\").replace("\"", "\\\"");
            return "Due.due(\"README.md: " + name + "\", " + call.group(1) + ", " + call.group(2) + ");";
        }
        boolean isPlain = row.isEmpty() || row.startsWith("//") || row.equals(MAKING);
        Due.due("README.md shows the answer of " + row, isPlain, true);
        return isPlain ? row : "";
    }

    // ---- The commands

    private static void runCommands(List<String> blocks, Path root, Path room) throws Exception {
        Files.createSymbolicLink(room.resolve("shared"), root.resolve("../shared").toRealPath());
        boolean runsAll = false;
        for (int i = 0; i < blocks.size(); i++) {
            // What the commands ahead left behind is not there for these.
            Path copy = room.resolve("copy" + i);
            copyClean(root, copy);
            for (String row : blocks.get(i).split("\n")) {
                runsAll |= row.equals("sh .ci/run");
                dueRuns(List.of("sh", "-c", row), copy);
            }
        }
        Due.due("README.md tells how to run all tests", runsAll, true);
    }

    /** Copies all that a checkout would hold: neither git's own files nor what javac made. */
    private static void copyClean(Path from, Path to) throws IOException {
        List<Path> files;
        try (Stream<Path> all = Files.walk(from)) {
            files = all.filter(file -> !file.startsWith(from.resolve(".git")) && !file.startsWith(from.resolve("out"))
                    && !file.toString().endsWith(".class")).toList();
        }
        for (Path file : files) {
            Path copy = to.resolve(from.relativize(file));
            if (Files.isDirectory(file)) {
                Files.createDirectory(copy);
            } else {
                Files.copy(file, copy);
            }
        }
    }

    private static void dueRuns(List<String> command, Path where) throws IOException, InterruptedException {
        ProcessBuilder builder = new ProcessBuilder(command).directory(where.toFile()).redirectErrorStream(true);
        builder.environment().put(INSIDE, "1");
        Process process = builder.start();
        process.getOutputStream().close();
        String said = new String(process.getInputStream().readAllBytes(), StandardCharsets.UTF_8);
        int code = process.waitFor();
        Due.due("exit code of " + String.join(" ", command), code, 0);
        if (code != 0) {
            System.out.println(said);
        }
    }

    private static void clear(Path room) throws IOException {
        List<Path> files;
        try (Stream<Path> all = Files.walk(room)) {
            files = all.sorted(Comparator.reverseOrder()).toList();
        }
        for (Path file : files) {
            Files.delete(file);
        }
    }

    // ---- The words

    /** For how many calls an object is used, README.md tells as the document does; and each number of a FAULT. */
    private static void dueTold(String readme, String doc) {
        Matcher calls = Pattern.compile("is used for at most \\d+ calls").matcher(doc);
        Due.due("the document tells how many calls", calls.find(), true);
        Due.due("README.md tells how many calls", readme.contains(calls.group()), true);
        for (String fault : new String[] {"1 SYNTAX", "2 ROOM", "3 TWICE", "5 WRONG"}) {
            Due.due("the document tells " + fault, doc.contains(fault), true);
            Due.due("README.md tells " + fault, readme.contains(fault), true);
        }
        for (String refusal : REFUSALS) {
            Due.due("README.md tells what " + refusal + " means",
                    Pattern.compile("(?m)^\\| .*" + refusal + "\\)? \\| \\S").matcher(readme).find(), true);
        }
    }

    private static void dueTestsNamed(String readme, Path tests) throws IOException {
        Set<String> named = new TreeSet<>();
        for (Matcher name = Pattern.compile("- `([A-Za-z]+Test)`").matcher(readme); name.find();) {
            named.add(name.group(1));
        }
        Set<String> there = new TreeSet<>();
        try (Stream<Path> files = Files.list(tests)) {
            files.map(file -> file.getFileName().toString()).filter(name -> name.endsWith("Test.java"))
                    .forEach(name -> there.add(name.replace(".java", "")));
        }
        Due.due("README.md names all tests: " + named + ", there are " + there, named.equals(there), true);
    }
}
