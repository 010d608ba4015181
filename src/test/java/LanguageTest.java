import java.nio.file.Files;
import java.nio.file.Path;
import java.util.List;
import java.util.TreeSet;
import java.util.regex.Matcher;
import java.util.regex.Pattern;

/** Rules of ../shared/LANGUAGE.md that can be seen in the words of the source. */
final class LanguageTest {
    /** Rules 2, 3, 6, 10, 12, 13: words that do not stand in it. */
    private static final String[] NEVER = {
        "throw", "try", "catch", "synchronized", "assert", "instanceof", "package", "volatile", "transient", "native",
        "var", "record", "yield", "protected", "Object", "Random", "Thread", "Exact", "hashCode", "toString", "equals",
        "System.currentTimeMillis", "System.nanoTime", "float", "double"};
    private static final String[] LIBRARY = {
        "Arrays.fill", "System.arraycopy", "Integer.bitCount", "Math.min", "Math.max", "Long.MIN_VALUE"};

    private LanguageTest() {
    }

    public static void main(String[] args) throws Exception {
        Path source = Path.of(System.getProperty("project.root", "."), "src/main/java/NamesBack.java");
        String text = Files.readString(source);
        String code = withoutTexts(text);
        for (String word : NEVER) {
            Check.holds("no " + word, !Pattern.compile("\\b" + Pattern.quote(word) + "\\b").matcher(code).find());
        }
        Check.holds("no lambda or arrow", !code.contains("->"));
        Check.holds("no method reference", !code.contains("::"));
        Check.holds("only signs 1 to 127", text.chars().allMatch(c -> c > 0 && c < 128));
        imports(text);
        library(code);
        loops(code);
        methodLengths(text);
        lineLengths(text);
        int classes = count(code, "\\bclass\\b");
        Check.holds("some twelve classes: " + classes, classes <= 12);
        Check.end("LanguageTest");
    }

    /** The source without comments, and with every text empty. */
    private static String withoutTexts(String text) {
        return text.replaceAll("(?s)/\\*.*?\\*/", "").replaceAll("//[^\n]*", "").replaceAll("\"[^\"\n]*\"", "\"\"");
    }

    private static int count(String code, String what) {
        return (int) Pattern.compile(what).matcher(code).results().count();
    }

    private static void imports(String text) {
        List<String> imports = text.lines().filter(l -> l.startsWith("import")).toList();
        Check.holds("imports: " + imports, imports.equals(List.of("import java.util.Arrays;")));
    }

    private static void library(String code) {
        TreeSet<String> used = new TreeSet<>();
        Matcher m = Pattern.compile("\\b(Arrays|System|Integer|Long|Math|String|StringBuilder|List|Character)\\.\\w+")
                .matcher(code);
        while (m.find()) {
            used.add(m.group());
        }
        used.removeAll(List.of(LIBRARY));
        Check.holds("of the library only what is known, not " + used, used.isEmpty());
    }

    /** Rule 9: each loop is a for with a counter and a bound. */
    private static void loops(String code) {
        Check.due("while and do", count(code, "\\b(while|do)\\b"), 0);
        int loops = count(code, "\\bfor \\(");
        int counted = count(code, "\\bfor \\(int \\w+ = [^;]+; [^;]*\\b\\w+ (<|>=) [^;]+; \\w+(\\+\\+|--)\\)");
        Check.due("loops with a counter", counted, loops);
    }

    private static void methodLengths(String text) {
        String[] lines = text.split("\n");
        for (int k = 0; k < lines.length; k++) {
            Matcher m = Pattern.compile("^( +)(?:public|private) [^=;]*\\) \\{$").matcher(lines[k]);
            if (!m.find()) {
                continue;
            }
            int end = k;
            while (end < lines.length && !lines[end].equals(m.group(1) + "}")) {
                end++;
            }
            Check.holds("line " + (k + 1) + " begins a short method", end - k < 60);
        }
    }

    private static void lineLengths(String text) {
        Check.holds("lines of 120 at most", text.lines().allMatch(l -> l.length() <= 120));
    }
}
