import java.util.ArrayList;
import java.util.List;

/** The document's sentences: its Terms (0) and its promises (1 to 27), and which of their words tests hold. */
final class Sentences {
    static final int PROMISES = 27;

    private final String[] texts = new String[PROMISES + 1];
    private final boolean[][] held = new boolean[PROMISES + 1][];

    Sentences(String document) {
        int section = -1;
        for (int i = 0; i <= PROMISES; i++) {
            texts[i] = "";
        }
        for (String line : document.split("\n")) {
            if (line.startsWith("## ")) {
                section = sectionOf(line);
            } else if (section >= 0 && !isAside(line)) {
                texts[section] += " " + line;
            } else if (line.startsWith("An object is used") || line.contains("static final int")) {
                texts[0] += " " + line;
            }
        }
        for (int i = 0; i <= PROMISES; i++) {
            texts[i] = plain(texts[i]);
            held[i] = new boolean[texts[i].length()];
        }
    }

    private static int sectionOf(String heading) {
        if (heading.equals("## Terms")) {
            return 0;
        }
        return heading.startsWith("## Promise ") ? Integer.parseInt(heading.replaceAll("\\D*(\\d+):.*", "$1")) : -1;
    }

    private static boolean isAside(String line) {
        return line.startsWith("```") || line.startsWith("Ahead of the calls");
    }

    /** Without the marks of a part and the head of a call, and with one blank between words. */
    private static String plain(String text) {
        return text.replaceAll("==== \\d ", "").replaceAll("`[^`]*`: ", "").replaceAll("\\s+", " ").trim();
    }

    /** Marks the words as held; false if they do not stand under the promise. */
    boolean hold(int promise, String words) {
        int at = texts[promise].indexOf(words);
        boolean found = at >= 0;
        while (at >= 0) {
            for (int i = 0; i < words.length(); i++) {
                held[promise][at + i] = true;
            }
            at = texts[promise].indexOf(words, at + 1);
        }
        return found;
    }

    /** The words under a promise that no test holds, in pieces. */
    List<String> open(int promise) {
        List<String> pieces = new ArrayList<>();
        StringBuilder piece = new StringBuilder();
        for (int i = 0; i <= texts[promise].length(); i++) {
            if (i < texts[promise].length() && !held[promise][i]) {
                piece.append(texts[promise].charAt(i));
                continue;
            }
            if (piece.toString().matches(".*\\w.*")) {
                pieces.add(piece.toString().trim());
            }
            piece.setLength(0);
        }
        return pieces;
    }
}
