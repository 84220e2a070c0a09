import java.io.IOException;
import java.nio.charset.StandardCharsets;
import java.nio.file.Files;
import java.nio.file.Path;
import java.util.List;
import java.util.regex.Matcher;
import java.util.regex.Pattern;
import java.util.stream.Collectors;
import java.util.stream.Stream;

/** Runs every test under src/test/edges, and looks whether they quote all that the document says. */
public final class EdgesTest {

    /** [promise] the document's words | what is looked at */
    private static final Pattern HEAD = Pattern.compile("\\[(\\d+)] ([^|]*?)(?:\\s*\\|\\s*(.*))?");

    private final EdgeDocument document;
    private EdgeRun run = null;
    private String about = "";
    private int tests = 0;

    private EdgesTest(EdgeDocument document) {
        this.document = document;
    }

    public static void main(String[] args) throws IOException {
        Path root = Path.of(args.length > 0 ? args[0] : ".");
        Path doc = root.resolve("../shared/DOC.md");
        EdgeDocument document = null;
        if (Files.exists(doc)) {
            document = new EdgeDocument(Files.readString(doc, StandardCharsets.UTF_8));
            Due.due("promises of the document", document.promises(), 48);
        } else {
            System.out.println("no ../shared/DOC.md: quotes are not looked up");
        }
        EdgesTest all = new EdgesTest(document);
        for (Path file : filesOf(root.resolve("src/test/edges"))) {
            all.file(file);
        }
        Due.isTrue("there are tests", all.tests > 0);
        if (document != null) {
            for (String words : document.unquoted()) {
                Due.isTrue("a test quotes " + words, false);
            }
        }
        System.out.println(all.tests + " tests of the document's sentences");
        Due.end();
    }

    private static List<Path> filesOf(Path folder) throws IOException {
        try (Stream<Path> files = Files.list(folder)) {
            return files.filter(f -> f.toString().endsWith(".txt")).sorted().collect(Collectors.toList());
        }
    }

    private void file(Path file) throws IOException {
        int number = 0;
        for (String line : Files.readAllLines(file, StandardCharsets.US_ASCII)) {
            number++;
            String text = line.strip();
            if (text.isEmpty() || text.startsWith("#")) {
                continue;
            }
            try {
                if (text.startsWith("[")) {
                    head(file, number, text);
                } else if (run == null) {
                    throw new IllegalArgumentException("no test begins ahead of " + text);
                } else {
                    run.line(text);
                }
            } catch (IllegalArgumentException | IllegalStateException e) {
                Due.isTrue(file.getFileName() + ", line " + number + ": " + e.getMessage(), false);
            }
        }
        endTest();
    }

    private void head(Path file, int number, String text) {
        endTest();
        Matcher m = HEAD.matcher(text);
        if (!m.matches()) {
            throw new IllegalArgumentException("no head of a test: " + text);
        }
        tests++;
        about = file.getFileName() + ", line " + number + ", " + text;
        run = new EdgeRun(about, text.contains("(beyond 512 calls)"));
        if (document != null && !document.quote(Integer.parseInt(m.group(1)), m.group(2))) {
            throw new IllegalArgumentException("the document doesn't say: " + text);
        }
    }

    private void endTest() {
        if (run != null) {
            Due.isTrue(about + ": it looks at an answer", run.looked() > 0);
        }
        run = null;
    }
}
