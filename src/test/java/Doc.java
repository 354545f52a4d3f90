import java.io.IOException;
import java.nio.charset.StandardCharsets;
import java.nio.file.Files;
import java.nio.file.Path;
import java.util.ArrayList;
import java.util.LinkedHashMap;
import java.util.List;
import java.util.Map;
import java.util.regex.Matcher;
import java.util.regex.Pattern;

/** The document by its parts ("Terms 1" .. "Terms 5", "Refused", "Constants", "Promise 1" ..), each as one line. */
final class Doc {
    private static final Path FILE = Path.of("..", "shared", "DOC.md");

    private Doc() {
    }

    /** Empty if the document does not lie where it should: then the sentences can't be compared with it. */
    static Map<String, String> parts() {
        Map<String, String> parts = new LinkedHashMap<>();
        if (!Files.exists(FILE)) {
            System.out.println("no " + FILE + ": the sentences that the tests name are not compared with it");
            return parts;
        }
        String text = read();
        put(parts, "What it is", text, "(An object is used for at most 512 calls .*?)## The public face");
        for (int part = 1; part <= 5; part++) {
            put(parts, "Terms " + part, text, "==== " + part + "\\. (.*?)(?:====|What is refused)");
        }
        put(parts, "Refused", text, "(What is refused [^\\n]*)\\n");
        put(parts, "Constants", text, "The constants: (.*?)## Promise 1:");
        Matcher promise = Pattern.compile("(?s)## (Promise \\d+):[^\\n]*\\n\\s*`[^`]*`: ([^\\n]*)\\n").matcher(text);
        while (promise.find()) {
            parts.put(promise.group(1), inOneLine(promise.group(2)));
        }
        return parts;
    }

    /** The lines of the public face, as they stand in the document; none if it does not lie where it should. */
    static List<String> face() {
        List<String> lines = new ArrayList<>();
        if (!Files.exists(FILE)) {
            System.out.println("no " + FILE + ": the face of the class is not compared with it");
            return lines;
        }
        Matcher block = Pattern.compile("(?s)## The public face\\s+```java\n(.*?)```").matcher(read());
        if (!block.find()) {
            throw new IllegalStateException("the document has no public face");
        }
        for (String line : block.group(1).split("\n")) {
            if (!line.isBlank()) {
                lines.add(line);
            }
        }
        return lines;
    }

    private static String read() {
        try {
            return Files.readString(FILE, StandardCharsets.ISO_8859_1);
        } catch (IOException e) {
            throw new IllegalStateException("can't read " + FILE, e);
        }
    }

    private static void put(Map<String, String> parts, String name, String text, String pattern) {
        Matcher m = Pattern.compile("(?s)" + pattern).matcher(text);
        if (!m.find()) {
            throw new IllegalStateException("the document has no part " + name);
        }
        parts.put(name, inOneLine(m.group(1)));
    }

    private static String inOneLine(String text) {
        return text.replaceAll("```(text)?", " ").replaceAll("\\s+", " ").trim();
    }
}
