import java.util.Map;

/**
 * Names the sentence of the document that the next answers are asked about. In the end each sentence of
 * the document must have been named, and each that was named must have been asked about.
 */
final class Edge {
    private static final Map<String, String> PARTS = Doc.parts();
    private static final int HOW_MANY = PARTS.size();
    private static String name = "";
    private static int doneBefore;

    private Edge() {
    }

    /** The sentence must stand in that part of the document, as it is written there. */
    static void of(String part, String sentence) {
        endOfLast();
        name = part + ", \"" + sentence + "\"";
        Checks.about(name);
        doneBefore = Checks.done();
        if (HOW_MANY == 0) {
            return;
        }
        String text = PARTS.getOrDefault(part, "");
        int at = text.indexOf(sentence);
        Checks.due("the sentence stands there (1: yes)", at >= 0, true);
        doneBefore = Checks.done();
        if (at >= 0) {
            // What was named is taken out, so that in the end only what was never named is left.
            PARTS.put(part, text.substring(0, at) + "#" + text.substring(at + sentence.length()));
        }
    }

    private static void endOfLast() {
        if (!name.isEmpty()) {
            Checks.due("asked about (1: yes)", Checks.done() > doneBefore, true);
        }
    }

    static void allWereNamed() {
        endOfLast();
        Checks.about("");
        Checks.due("parts of the document", HOW_MANY, HOW_MANY == 0 ? 0 : 52);
        for (Map.Entry<String, String> part : PARTS.entrySet()) {
            String left = part.getValue().replaceAll("[#\\s]+", " ").trim();
            if (!left.isEmpty()) {
                System.out.println(part.getKey() + " has what no test names: " + left);
            }
            Checks.due("all of " + part.getKey() + " is named (1: yes)", left.isEmpty(), true);
        }
    }
}
