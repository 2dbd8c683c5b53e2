import java.io.IOException;
import java.nio.file.Files;
import java.nio.file.Path;
import java.util.ArrayList;
import java.util.List;
import java.util.TreeMap;

/** The sentences of ../shared/DOC.md by promises, and which of their words some test stands for. */
final class Sentences {
    private static final int PROMISES = 21;
    private final TreeMap<Integer, String> texts = new TreeMap<>();
    private final TreeMap<Integer, boolean[]> tested = new TreeMap<>();

    Sentences(Path document) throws IOException {
        if (!Files.exists(document)) {
            return;
        }
        String all = Files.readString(document);
        for (int promise = 0; promise <= PROMISES; promise++) {
            String head = promise == 0 ? "## Terms\n" : "## Promise " + promise + ":";
            int from = all.indexOf(head);
            int to = from < 0 ? -1 : all.indexOf("\n## ", from);
            String text = from < 0 ? "" : all.substring(from, to < 0 ? all.length() : to);
            // A promise begins with its head and its call, which are no sentence.
            String body = promise == 0 ? text.substring(Math.min(head.length(), text.length())) : text.substring(text.indexOf("`: ") + 1);
            texts.put(promise, body);
            tested.put(promise, new boolean[body.length()]);
        }
    }

    boolean has(int promise, String words) {
        return texts.getOrDefault(promise, "").contains(words);
    }

    void mark(int promise, String words) {
        String text = texts.getOrDefault(promise, "");
        for (int at = text.indexOf(words); at >= 0; at = text.indexOf(words, at + 1)) {
            for (int i = at; i < at + words.length(); i++) {
                tested.get(promise)[i] = true;
            }
        }
    }

    List<String> untested() {
        List<String> rest = new ArrayList<>();
        for (int promise : texts.keySet()) {
            StringBuilder piece = new StringBuilder();
            String text = texts.get(promise);
            for (int i = 0; i <= text.length(); i++) {
                if (i < text.length() && !tested.get(promise)[i]) {
                    piece.append(text.charAt(i));
                    continue;
                }
                String words = piece.toString().replaceAll("```(text)?|==== [0-9]\\.", "").trim();
                if (words.matches("(?s).*[A-Za-z0-9].*")) {
                    rest.add("promise " + promise + ": " + words);
                }
                piece.setLength(0);
            }
        }
        return rest;
    }
}
