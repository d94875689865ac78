import java.io.IOException;
import java.io.UncheckedIOException;
import java.nio.file.Files;
import java.nio.file.Path;
import java.util.ArrayList;
import java.util.List;
import java.util.Map;
import java.util.TreeMap;

/** The document's words, promise by promise, and which of them a test has been about. */
final class Document {
    /** Stands for what is ahead of the promises: "What it is" and "Terms". */
    static final int TERMS = 0;

    private final Map<Integer, String> parts = new TreeMap<>();
    private final Map<Integer, boolean[]> told = new TreeMap<>();

    Document(Path path) {
        int promise = TERMS;
        for (String line : linesOf(path)) {
            if (line.startsWith("## Promise ")) {
                promise = Integer.parseInt(line.substring(11, line.indexOf(':')));
            } else if (!isFrame(line)) {
                parts.merge(promise, words(line), (ahead, behind) -> ahead + "\n" + behind);
            }
        }
        parts.forEach((number, part) -> told.put(number, new boolean[part.length()]));
    }

    /** Without the face, which FaceTest reads, and without what promises nothing. */
    private static List<String> linesOf(Path path) {
        try {
            String text = Files.readString(path);
            return text.substring(text.indexOf("## What it is"), text.indexOf("## Not promised"))
                    .replaceAll("(?s)```java.*?```", "").lines().toList();
        } catch (IOException unread) {
            throw new UncheckedIOException(unread);
        }
    }

    private static boolean isFrame(String line) {
        return line.isBlank() || line.startsWith("#") || line.startsWith("```")
                || line.startsWith("Ahead of the calls");
    }

    /** Without the signature that a promise starts with. */
    private static String words(String line) {
        return line.replaceFirst("^`\\w[^`]*\\([^`]*`: ", "").trim().replaceAll("\\s+", " ");
    }

    /** Whether the promise has the words, and only once. */
    boolean tell(int promise, String words) {
        String part = parts.getOrDefault(promise, "");
        int at = part.indexOf(words);
        for (int i = at; at >= 0 && i < at + words.length(); i++) {
            told.get(promise)[i] = true;
        }
        return at >= 0 && at == part.lastIndexOf(words);
    }

    /** The sentences, or parts of these between semicolons, of which no word was told. */
    List<String> untold() {
        List<String> untold = new ArrayList<>();
        parts.forEach((promise, part) -> {
            int start = 0;
            for (String sentence : part.split("(?<=[.;]) |\n")) {
                boolean isTold = false;
                for (int i = start; i < start + sentence.length(); i++) {
                    isTold |= told.get(promise)[i];
                }
                if (!isTold) {
                    untold.add(sentence);
                }
                start += sentence.length() + 1;
            }
        });
        return untold;
    }
}
