import java.io.IOException;
import java.nio.charset.StandardCharsets;
import java.nio.file.Files;
import java.nio.file.Path;
import java.util.HashMap;
import java.util.Map;

/** What the tests of the document's boundary sentences share: each names the sentence that its answers are due by. */
final class Edge {
    private static final Map<String, StringBuilder> PARTS = new HashMap<>();
    private static final Map<String, Integer> ASKED = new HashMap<>();
    private static String part = "";
    private static String label = "";

    private Edge() {
    }

    /** Cuts the document into "Terms", "Section 1" to "Section 3", "Promise 1" to "Promise 50". */
    static void readDocument() throws IOException {
        String name = "";
        for (String line : Files.readString(Path.of("../shared/DOC.md"), StandardCharsets.ISO_8859_1).split("\n")) {
            if (line.startsWith("## ")) {
                name = line.substring(3).replaceAll(":.*", "");
            } else if (line.startsWith("======== ")) {
                name = "Section " + line.charAt(9);
            }
            PARTS.computeIfAbsent(name, n -> new StringBuilder()).append(line.strip()).append(' ');
        }
    }

    /** The words that the answers behind it are due by; these must stand in that part of the document. */
    static void of(String where, String words) {
        part = where;
        label = where + ", '" + words + "': ";
        String text = String.valueOf(PARTS.get(where));
        Check.due(label + "words of the document", text.contains(words) ? 1 : 0, 1);
    }

    static void due(String call, long got, long want) {
        ASKED.merge(part, 1, Integer::sum);
        Check.due(label + call, got, want);
    }

    /** No part without a test: Terms, the sections, the promises. */
    static void coverAll() {
        for (int p = 1; p <= 50; p++) {
            cover("Promise " + p);
        }
        for (int s = 1; s <= 3; s++) {
            cover("Section " + s);
        }
        cover("Terms");
        cover("What it is");
    }

    private static void cover(String where) {
        Check.due(where + " has a test", Math.min(1, ASKED.getOrDefault(where, 0)), 1);
    }
}
