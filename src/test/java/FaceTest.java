import java.io.IOException;
import java.nio.charset.StandardCharsets;
import java.nio.file.Files;
import java.nio.file.Path;
import java.util.Arrays;
import java.util.Collections;
import java.util.List;

/** The public face: every line of it stands in the class as it stands in the document, and no other is public. */
public final class FaceTest {
    private static final Path SOURCE = Path.of("src", "main", "java", "StickRace.java");
    // One import, the class, two constants, the constructor, 43 methods and the closing brace.
    private static final int LINES = 49;

    public static void main(String[] args) throws IOException {
        List<String> face = Doc.face();
        List<String> source = Arrays.asList(Files.readString(SOURCE, StandardCharsets.ISO_8859_1).split("\n"));
        Checks.due("lines of the face", face.size(), face.isEmpty() ? 0 : LINES);
        int members = 0;
        for (String line : face) {
            Checks.due("in the class: " + line.trim(), Collections.frequency(source, asWritten(line)) >= 1, true);
            members += line.startsWith("    public ") ? 1 : 0;
        }
        int written = 0;
        for (String line : source) {
            written += line.startsWith("    public ") ? 1 : 0;
        }
        Checks.due("public members of the class", written, face.isEmpty() ? written : members);
        for (String line : source) {
            boolean inside = line.startsWith("     ") && line.trim().startsWith("public ");
            Checks.due("not public inside: " + line.trim(), inside, false);
        }
        Checks.finish("FaceTest");
    }

    /** A method or constructor has its body where the document has a semicolon. */
    private static String asWritten(String line) {
        return line.endsWith(");") || line.endsWith("Exception;") && line.startsWith("    public ")
            ? line.substring(0, line.length() - 1) + " {" : line;
    }
}
