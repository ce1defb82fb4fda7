import java.io.IOException;
import java.lang.reflect.Method;
import java.lang.reflect.Modifier;
import java.nio.charset.StandardCharsets;
import java.nio.file.Files;
import java.nio.file.Path;
import java.util.ArrayList;
import java.util.Arrays;
import java.util.List;
import java.util.TreeSet;
import java.util.stream.Collectors;
import java.util.stream.Stream;

/** What README.md says is so: its program, its books, its calls, and how it says the tests are run. */
public final class ReadmeTest {

    private static final Path CLASS = Path.of("src/main/java/PlankBridge.java");
    private static final Path TESTS = Path.of("src/test/java");

    private static List<String> lines;

    public static void main(String[] args) throws IOException, InterruptedException {
        lines = Files.readAllLines(Path.of("README.md"));
        Checks.about("README.md");
        program();
        books();
        calls();
        tests();
        Checks.end();
    }

    /** The lines of the first block of this kind that begins at that line or behind it. */
    private static List<String> block(String kind, int from) {
        int first = from;
        while (!lines.get(first).equals("```" + kind)) {
            first++;
        }
        int behind = first + 1;
        while (!lines.get(behind).equals("```")) {
            behind++;
        }
        return lines.subList(first + 1, behind);
    }

    private static int lineWith(String text) {
        for (int i = 0; i < lines.size(); i++) {
            if (lines.get(i).contains(text)) {
                return i;
            }
        }
        throw new IllegalStateException("no line with " + text);
    }

    // ---- the program

    private static void program() throws IOException, InterruptedException {
        Path folder = Files.createTempDirectory("readme");
        Files.copy(CLASS, folder.resolve(CLASS.getFileName()));
        Files.write(folder.resolve("Crossing.java"), block("java", 0));
        int commands = lineWith("    javac ");
        String printed = run(folder, lines.get(commands)) + run(folder, lines.get(commands + 1));
        Checks.due("the program", printed, String.join("\n", block("text", commands)) + "\n");
        try (Stream<Path> made = Files.list(folder)) {
            for (Path file : made.collect(Collectors.toList())) {
                Files.delete(file);
            }
        }
        Files.delete(folder);
    }

    /** What this command prints there; what it says of errors goes where ours goes. */
    private static String run(Path folder, String command) throws IOException, InterruptedException {
        ProcessBuilder process = new ProcessBuilder(command.strip().split(" "))
                .directory(folder.toFile()).redirectError(ProcessBuilder.Redirect.INHERIT);
        process.environment().remove("CLASSPATH");
        Process running = process.start();
        String printed = new String(running.getInputStream().readAllBytes(), StandardCharsets.UTF_8);
        Checks.due("the exit code of " + command.strip(), running.waitFor(), 0);
        return printed.replace("\r\n", "\n");
    }

    // ---- the books

    /** What stands on the left of such a block, with empty blocks for those that it leaves out. */
    private static String left(String title) {
        StringBuilder all = new StringBuilder();
        for (String line : block("text", lineWith(title))) {
            all.append(line.split(" {3,}")[0].replace("( .. )", "()")).append(' ');
        }
        return all.toString();
    }

    private static void books() {
        String book = left("### A book");
        Checks.due("teach() of " + book, Checks.teach(new PlankBridge(), book), 0);
        String acts = left("The acts of a plan:");
        Checks.due("teach() with the acts " + acts, Checks.teach(new PlankBridge(),
                book + "plan all (" + acts + ")"), 0);
        Checks.due("whether all acts are there", Stream.of("send", "rest", "note", "mend", "do", "while",
                "if", "else", "and").allMatch(word -> acts.contains(word + " ")), true);
    }

    // ---- the calls

    private static void calls() {
        TreeSet<String> due = new TreeSet<>();
        for (Method method : PlankBridge.class.getDeclaredMethods()) {
            if (Modifier.isPublic(method.getModifiers())) {
                due.add(method.getName() + " " + method.getParameterCount() + " "
                        + Arrays.stream(method.getExceptionTypes()).map(Class::getSimpleName)
                                .collect(Collectors.joining(" ")));
            }
        }
        TreeSet<String> told = new TreeSet<>();
        for (String line : lines) {
            if (line.startsWith("| `")) {
                told.add(toldCall(line));
            }
        }
        Checks.due("the calls", told.toString(), due.toString());
    }

    private static String toldCall(String line) {
        String[] cells = line.split("\\|");
        String call = cells[1].replace("`", "").strip();
        String inside = call.substring(call.indexOf('(') + 1, call.indexOf(')'));
        List<String> thrown = new ArrayList<>();
        for (String part : cells[3].split("`")) {
            if (part.endsWith("Exception")) {
                thrown.add(part);
            }
        }
        return call.substring(0, call.indexOf('(')) + " "
                + (inside.isEmpty() ? 0 : inside.split(", ").length) + " " + String.join(" ", thrown);
    }

    // ---- the tests

    private static void tests() throws IOException {
        String text = String.join("\n", lines);
        Checks.due("whether the command can be run", text.contains("\n    .ci/run\n")
                && Files.isExecutable(Path.of(".ci/run")), true);
        try (Stream<Path> files = Files.list(TESTS)) {
            for (Path file : files.collect(Collectors.toList())) {
                String name = "`" + file.getFileName().toString().replace(".java", "") + "`";
                Checks.due("whether it names " + name, text.contains(name), true);
            }
        }
    }
}
