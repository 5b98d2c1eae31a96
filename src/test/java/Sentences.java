import java.io.IOException;
import java.nio.file.Files;
import java.nio.file.Path;
import java.util.BitSet;
import java.util.LinkedHashMap;
import java.util.Map;

/** The document's sentences: each test names the one that it is about, and none stays without a test. */
final class Sentences {
    private static final Path DOCUMENT = Path.of("../shared/DOC.md");

    private final Map<String, String> texts = new LinkedHashMap<>();
    private final Map<String, BitSet> tested = new LinkedHashMap<>();

    Sentences() {
        String all;
        try {
            all = Files.readString(DOCUMENT);
        } catch (IOException e) {
            System.out.println("no " + DOCUMENT + ": the sentences are not looked up");
            return;
        }
        for (String part : all.split("(?m)^## ")) {
            String head = part.lines().findFirst().orElse("").replaceAll(":.*", "");
            if (head.equals("Terms") || head.startsWith("Promise ") || head.equals("What it is")) {
                texts.put(head, plain(part.substring(part.indexOf('\n') + 1)));
                tested.put(head, new BitSet());
            }
        }
    }

    /** Without fences, the marks between the chapters and line ends. */
    private static String plain(String part) {
        return part.replaceAll("```[a-z]*", " ").replaceAll("==== \\d+\\.", " ").replaceAll("\\s+", " ");
    }

    /** Nothing, or what is wrong. */
    String mark(String head, String sentence) {
        if (texts.isEmpty()) {
            return "";
        }
        String text = texts.getOrDefault(head, "");
        int at = text.indexOf(sentence);
        if (at < 0) {
            return "the document has no such sentence";
        }
        tested.get(head).set(at, at + sentence.length());
        return "";
    }

    /** What no test names, but for signatures and for the lead of the document, which promises nothing. */
    String untested() {
        StringBuilder left = new StringBuilder();
        for (Map.Entry<String, String> entry : texts.entrySet()) {
            String text = entry.getValue();
            BitSet seen = tested.get(entry.getKey());
            StringBuilder s = new StringBuilder();
            for (int i = 0; i < text.length(); i++) {
                s.append(seen.get(i) ? '|' : text.charAt(i));
            }
            String rest = s.toString().replaceAll("`[^`]*`", "").replaceAll("\\|+", "|");
            if (rest.matches(".*[a-zA-Z0-9].*") && !entry.getKey().equals("What it is")) {
                left.append(entry.getKey()).append(": ").append(rest.trim()).append('\n');
            }
        }
        return left.toString();
    }
}
