import java.util.ArrayList;
import java.util.HashMap;
import java.util.List;
import java.util.Map;
import java.util.regex.Matcher;
import java.util.regex.Pattern;

/** The document's words, promise by promise (0: the terms), and which of them a test quotes. */
final class EdgeDocument {

    private static final Pattern PROMISE = Pattern.compile("(?s)## Promise (\\d+): [^\n]*\n+`[^`]*`: (.*?)(?=\n## |$)");
    private static final Pattern TERMS = Pattern.compile("(?s)## Terms\n(.*?)\nAhead of the calls");

    private final Map<Integer, String> texts = new HashMap<>();
    private final Map<Integer, boolean[]> quoted = new HashMap<>();

    EdgeDocument(String document) {
        Matcher terms = TERMS.matcher(document);
        if (terms.find()) {
            put(0, terms.group(1).replace("```text", " ").replace("```", " ").replaceAll("(?m)^\\d\\. ", ""));
        }
        Matcher promises = PROMISE.matcher(document);
        while (promises.find()) {
            put(Integer.parseInt(promises.group(1)), promises.group(2));
        }
    }

    private void put(int promise, String text) {
        String words = text.replaceAll("\\s+", " ").strip();
        texts.put(promise, words);
        quoted.put(promise, new boolean[words.length()]);
    }

    int promises() {
        return texts.size() - 1;
    }

    String textOf(int promise) {
        return texts.getOrDefault(promise, "");
    }

    /** False: these words don't stand there. */
    boolean quote(int promise, String words) {
        String text = texts.get(promise);
        if (text == null || words.isEmpty() || !text.contains(words)) {
            return false;
        }
        for (int at = text.indexOf(words); at >= 0; at = text.indexOf(words, at + 1)) {
            for (int i = at; i < at + words.length(); i++) {
                quoted.get(promise)[i] = true;
            }
        }
        return true;
    }

    /** Runs of words that no test quotes. */
    List<String> unquoted() {
        List<String> runs = new ArrayList<>();
        for (int promise = 0; promise < texts.size(); promise++) {
            String text = texts.get(promise);
            StringBuilder run = new StringBuilder();
            for (int i = 0; text != null && i <= text.length(); i++) {
                if (i < text.length() && !quoted.get(promise)[i]) {
                    run.append(text.charAt(i));
                } else {
                    if (run.toString().matches("(?s).*\\w.*")) {
                        runs.add("promise " + promise + ": " + run.toString().strip());
                    }
                    run.setLength(0);
                }
            }
        }
        return runs;
    }
}
