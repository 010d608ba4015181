import java.io.IOException;
import java.nio.file.Files;
import java.nio.file.Path;
import java.util.ArrayList;
import java.util.List;
import java.util.regex.Matcher;
import java.util.regex.Pattern;
import java.util.stream.Stream;
import javax.tools.ToolProvider;

/** What README.md says holds: its example compiles and prints what it says; it names each test and each inner class. */
final class ReadmeTest {
    private static final Path ROOT = Path.of(System.getProperty("project.root", "."));

    private ReadmeTest() {
    }

    public static void main(String[] args) throws Exception {
        String text = Files.readString(ROOT.resolve("README.md"));
        example(text);
        refusals(text);
        namesTests(text);
        namesClasses(text);
        Check.end("ReadmeTest");
    }

    private static void example(String text) throws Exception {
        Matcher block = Pattern.compile("(?s)```java\n(.*?)```").matcher(text);
        Check.holds("there is an example", block.find());
        List<String> due = new ArrayList<>();
        Matcher says = Pattern.compile("println\\(.*\\); +// (-?\\d+)").matcher(block.group(1));
        while (says.find()) {
            due.add(says.group(1));
        }
        Path out = Files.createTempDirectory("readme");
        try {
            List<String> printed = printedBy(block.group(1), out);
            Check.due("README: lines printed", printed.size(), due.size());
            Check.holds("README: " + printed + " is printed, due is " + due, printed.equals(due));
        } finally {
            removeAll(out);
        }
    }

    /** Compiles and runs it by the words that README.md tells, from another folder. */
    private static List<String> printedBy(String code, Path out) throws Exception {
        Path file = Files.writeString(out.resolve("Example.java"), code);
        String main = ROOT.resolve("src/main/java/NamesBack.java").toString();
        int exit = ToolProvider.getSystemJavaCompiler()
                .run(null, null, null, "-d", out.toString(), main, file.toString());
        Check.due("README: the example compiles", exit, 0);
        String java = Path.of(System.getProperty("java.home"), "bin", "java").toString();
        Process run = new ProcessBuilder(java, "-cp", out.toString(), "Example").redirectErrorStream(true).start();
        List<String> printed = new String(run.getInputStream().readAllBytes()).lines().toList();
        Check.due("README: the example ends well", run.waitFor(), 0);
        return printed;
    }

    private static void removeAll(Path folder) throws IOException {
        try (Stream<Path> all = Files.list(folder)) {
            for (Path file : all.toList()) {
                Files.delete(file);
            }
        }
        Files.delete(folder);
    }

    private static void row(String text, long answer, String begins) {
        Check.holds("README tells of " + answer, text.contains("| " + answer + " | " + begins));
    }

    /** Each refusal is told, and is answered so. */
    private static void refusals(String text) {
        NamesBack x = new NamesBack();
        row(text, x.of(0, 0), "`NONE` |");
        row(text, x.place(0, 10, 0), "`BAD` |");
        row(text, x.undo(), "`STATE` |");
        for (int p = 0; p < 7; p++) {
            x.place(0, 0, 0);
        }
        row(text, x.place(0, 0, 0), "`FULL` |");
        row(text, x.item(0, 0, 0), "nothing |");
        row(text, x.taken(0, 1), "cast |");
        x.tape(0, 0, 1);
        row(text, x.item(0, 1, 0), "place |");
        row(text, x.tape(0, 0, -1), "size |");
        Check.due("README: -10 less the fault", Check.land(x, "arms x"), -15);
        Check.due("README: only land empties a text", x.count(4), 0);
        Check.holds("README: NO", x.mean(0) == Long.MIN_VALUE && text.contains("| `Long.MIN_VALUE` | `NO` |"));
    }

    private static void namesTests(String text) throws IOException {
        try (Stream<Path> files = Files.list(ROOT.resolve("src/test/java"))) {
            for (Path file : files.sorted().toList()) {
                String name = file.getFileName().toString().replace(".java", "");
                String told = name.startsWith("Bounds") ? "Bounds..Test" : name;
                Check.holds("README names " + told, text.contains("`" + told + "`"));
            }
        }
    }

    private static void namesClasses(String text) {
        for (Class<?> inner : NamesBack.class.getDeclaredClasses()) {
            Check.holds("README names " + inner.getSimpleName(), text.contains("`" + inner.getSimpleName() + "`"));
        }
    }
}
