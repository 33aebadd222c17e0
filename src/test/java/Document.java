import java.io.IOException;
import java.nio.file.Files;
import java.nio.file.Path;
import java.util.Arrays;

/** The document, and which of its words have been quoted by tests. */
final class Document {
    private static final Path FILE = Path.of("../shared/DOC.md");

    private final Check check;
    private final String text;
    private final boolean[] quoted;

    Document(Check check) throws IOException {
        this.check = check;
        text = Files.exists(FILE) ? plain(Files.readString(FILE)) : "";
        quoted = new boolean[text.length()];
        if (text.isEmpty()) {
            System.out.println("no " + FILE + " found: quotes aren't looked up in it");
        }
    }

    private static String plain(String text) {
        return text.replaceAll("```text|```", " ").replaceAll("\\s+", " ");
    }

    /** A quote must stand in the document, all of it, as it is told there. */
    void quote(String words) {
        int at = text.indexOf(words);
        check.due("it stands in the document: " + words, at >= 0 || text.isEmpty() ? 1 : 0, 1);
        for (int from = at; from >= 0; from = text.indexOf(words, from + 1)) {
            Arrays.fill(quoted, from, from + words.length(), true);
        }
    }

    /** Each word of the terms, answers and promises must have been quoted, but for headings and faces. */
    void rest() {
        if (text.isEmpty()) {
            return;
        }
        StringBuilder left = new StringBuilder();
        int end = text.indexOf("## Not promised");
        for (int k = text.indexOf("==== 1 CANDIDATES"); k < end; k++) {
            left.append(quoted[k] ? '\n' : text.charAt(k));
        }
        String words = left.toString().replaceAll("==== [123]", "").replaceAll("(Answers|More precisely)[:.]", "")
                .replaceAll("## Promise \\d+: [\\w ]+", "")
                .replaceAll("The constants: `NO = Long.MIN_VALUE`: No such number\\.", "")
                .replaceAll("Ahead of the calls [^:]* the interface says: ---- [\\w ,]*\\.", "");
        for (String piece : words.split("\n+")) {
            check.due("it is quoted: " + piece, piece.matches(".*\\w.*") ? 0 : 1, 1);
        }
    }
}
