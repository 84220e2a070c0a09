import java.io.IOException;
import java.nio.charset.StandardCharsets;
import java.nio.file.Files;
import java.nio.file.Path;
import java.util.ArrayList;
import java.util.List;
import java.util.regex.Matcher;
import java.util.regex.Pattern;
import java.util.stream.Stream;

/** What README.md says: its examples, all calls and their findings, the numbers of rules, the tests' names. */
public final class ReadmeTest {

    private static final String[] FINDINGS = {"BEYOND", "FULL", "KIND", "NONE", "STATE", "MISSING", "SIZE"};
    private static final Pattern EXAMPLE = Pattern.compile("(?m)^x\\.(\\w+)\\(([^)]*)\\);\\s*// (-?\\d+|[A-Z]+)(?=[: \n])");
    private static final Pattern ROW = Pattern.compile("(?m)^\\| `(\\w+\\([^)]*\\))` \\| [^|]+ \\| ([^|]+) \\|$");
    private static final Pattern FACE = Pattern.compile("(?m)^ +public (?:int|long) (\\w+)\\(([^)]*)\\);$");
    private static final Pattern FINDING = Pattern.compile("(?<=\\. )(BEYOND|FULL|KIND|NONE|STATE|MISSING|SIZE)\\b");

    private final String readme;

    private ReadmeTest(String readme) {
        this.readme = readme;
    }

    public static void main(String[] args) throws IOException {
        Path root = Path.of(args.length > 0 ? args[0] : ".");
        ReadmeTest test = new ReadmeTest(Files.readString(root.resolve("README.md"), StandardCharsets.UTF_8));
        test.examples();
        test.calls(Files.readString(root.resolve("../shared/DOC.md"), StandardCharsets.UTF_8));
        test.findings();
        test.numbers();
        test.tests(root.resolve("src/test/java"));
        Due.end();
    }

    private void examples() {
        Matcher block = Pattern.compile("(?s)```java\n(.*?)```").matcher(readme);
        int blocks = 0;
        while (block.find()) {
            blocks++;
            example(block.group(1));
        }
        Due.due("examples", blocks, 2);
    }

    private static void example(String code) {
        String[] lines = code.split("\n");
        Due.isTrue("an example begins with a new object", lines[0].equals("GlassWords x = new GlassWords();"));
        GlassWords x = new GlassWords();
        for (int i = 1; i < lines.length; i++) {
            Matcher m = EXAMPLE.matcher(lines[i]);
            boolean told = m.find();
            Due.isTrue("an example's call and its answer: " + lines[i], told);
            if (told) {
                Face.Call call = Face.call(m.group(1), numbersIn(m.group(2)));
                Due.due("README: " + call.told(), call.on(x), answerNamed(m.group(3)));
            }
        }
    }

    private static int[] numbersIn(String list) {
        String[] parts = list.isBlank() ? new String[0] : list.split(", ");
        int[] numbers = new int[parts.length];
        for (int i = 0; i < parts.length; i++) {
            numbers[i] = Integer.decode(parts[i]);
        }
        return numbers;
    }

    private static long answerNamed(String s) {
        for (int i = 0; i < FINDINGS.length; i++) {
            if (s.equals(FINDINGS[i])) {
                return Due.BEYOND - i;
            }
        }
        return Long.parseLong(s);
    }

    /** A row for each call, in the order of the document's face, with the findings that its promise names. */
    private void calls(String doc) {
        List<String> due = new ArrayList<>();
        EdgeDocument promises = new EdgeDocument(doc);
        Matcher face = FACE.matcher(doc);
        while (face.find()) {
            String told = face.group(1) + "(" + face.group(2).replace("int ", "") + ")";
            due.add(told + ": " + findingsIn(promises.textOf(due.size() + 2)));
        }
        Due.due("calls of the document", due.size(), 47);
        List<String> got = new ArrayList<>();
        Matcher row = ROW.matcher(readme);
        while (row.find()) {
            got.add(row.group(1) + ": " + row.group(2));
        }
        Due.due("calls that README.md tells", got.size(), due.size());
        for (int i = 0; i < Math.min(due.size(), got.size()); i++) {
            Due.isTrue("README.md tells " + got.get(i) + ", due is " + due.get(i), got.get(i).equals(due.get(i)));
        }
    }

    private static String findingsIn(String promise) {
        List<String> names = new ArrayList<>();
        Matcher m = FINDING.matcher(promise);
        while (m.find()) {
            names.add(m.group(1));
        }
        return names.isEmpty() ? "none" : String.join(", ", names);
    }

    private void findings() {
        for (int i = 0; i < FINDINGS.length; i++) {
            String row = "| " + (Due.BEYOND - i) + " | " + FINDINGS[i] + " | " + i + " | ";
            Due.isTrue("README.md tells " + row, readme.contains("\n" + row));
        }
    }

    private void numbers() {
        String[] kinds = cells("kind");
        for (int kind = 0; kind < 7; kind++) {
            GlassWords x = new GlassWords();
            Due.feedText(x, kinds[kind].toLowerCase());
            Due.due("text of " + kinds[kind], x.text(), 1);
            Due.due("kind " + kinds[kind], x.of(0, 0), kind);
        }
        String[] bounds = cells("least, most");
        String[] first = cells("at first");
        GlassWords x = new GlassWords();
        for (int what = 0; what < 10; what++) {
            int[] ends = numbersIn(bounds[what]);
            int was = Integer.parseInt(first[what]);
            Due.due("ruled(" + what + ")", x.ruled(what), was);
            Due.due("rule(" + what + "), below the least", x.rule(what, ends[0] - 1), Due.BEYOND);
            Due.due("rule(" + what + "), the least", x.rule(what, ends[0]), was);
            Due.due("rule(" + what + "), the most", x.rule(what, ends[1]), ends[0]);
            Due.due("rule(" + what + "), above the most", x.rule(what, ends[1] + 1), Due.BEYOND);
        }
    }

    /** The ten cells behind a row's name. */
    private String[] cells(String name) {
        Matcher m = Pattern.compile("(?m)^\\| " + name + " \\|(.*)\\|$").matcher(readme);
        String[] cells = m.find() ? m.group(1).split("\\|", -1) : new String[0];
        Due.due("cells of " + name, cells.length, 10);
        String[] stripped = new String[10];
        for (int i = 0; i < stripped.length; i++) {
            stripped[i] = i < cells.length ? cells[i].strip() : "0, 0";
        }
        return stripped;
    }

    private void tests(Path folder) throws IOException {
        try (Stream<Path> files = Files.list(folder)) {
            files.map(f -> f.getFileName().toString()).filter(f -> f.endsWith("Test.java")).forEach(f -> {
                String name = f.substring(0, f.length() - ".java".length());
                Due.isTrue("README.md names " + name, readme.contains("`" + name + "`"));
            });
        }
        Due.isTrue("README.md names .ci/run", readme.contains("\n    .ci/run\n"));
        Due.isTrue("README.md names the tests of the interface", readme.contains("`../shared/tests`"));
    }
}
