import java.io.IOException;
import java.lang.reflect.Constructor;
import java.lang.reflect.Field;
import java.lang.reflect.Member;
import java.lang.reflect.Method;
import java.lang.reflect.Modifier;
import java.nio.charset.StandardCharsets;
import java.nio.file.Files;
import java.nio.file.Path;
import java.util.ArrayList;
import java.util.Arrays;
import java.util.List;
import java.util.Set;
import java.util.TreeSet;
import java.util.regex.Matcher;
import java.util.regex.Pattern;

/** What of ../shared/LANGUAGE.md can be seen by a look at the class and at its text. */
public final class LanguageTest {
    private static final String FACE = "feed end fault text brook pace stick weather can on runner start tick look pull "
        + "lies odds alone luck best choice same carved trials plan fewest sight agree stoned fair image back was passed "
        + "leader led struck rounds duel ladder reach close count";
    private static final Path SOURCE = Path.of("src", "main", "java", "StickRace.java");

    public static void main(String[] args) throws IOException {
        List<Class<?>> all = new ArrayList<>(List.of(StickRace.class));
        all.addAll(Arrays.asList(StickRace.class.getDeclaredClasses()));
        Checks.due("at most twelve classes", all.size() <= 12, true);
        face();
        for (Class<?> c : all) {
            inside(c);
        }
        text(Files.readString(SOURCE, StandardCharsets.ISO_8859_1));
        Checks.finish("LanguageTest");
    }

    private static void face() {
        Set<String> publicNames = new TreeSet<>();
        for (Method m : StickRace.class.getDeclaredMethods()) {
            boolean isPublic = Modifier.isPublic(m.getModifiers());
            boolean isPrivate = Modifier.isPrivate(m.getModifiers());
            Checks.due("public or private: " + m, isPublic || isPrivate || m.isSynthetic(), true);
            if (isPublic) {
                Checks.due("public once: " + m, publicNames.add(m.getName()), true);
            }
        }
        Checks.due("the methods of the face", publicNames.equals(new TreeSet<>(Arrays.asList(FACE.split(" ")))), true);
        Set<String> constants = new TreeSet<>();
        for (Field f : StickRace.class.getDeclaredFields()) {
            if (Modifier.isPublic(f.getModifiers())) {
                constants.add(f.getName());
            } else {
                Checks.due("private: " + f, Modifier.isPrivate(f.getModifiers()), true);
            }
        }
        Checks.due("the constants of the face", constants.equals(Set.of("NONE", "HIDDEN")), true);
        Constructor<?>[] made = StickRace.class.getDeclaredConstructors();
        Checks.due("one constructor", made.length, 1);
        Checks.due("it takes nothing", made[0].getParameterCount(), 0);
        Checks.due("final", Modifier.isFinal(StickRace.class.getModifiers()), true);
    }

    private static void inside(Class<?> c) {
        List<String> face = Arrays.asList(FACE.split(" "));
        int fields = 0;
        for (Field f : c.getDeclaredFields()) {
            boolean isStatic = Modifier.isStatic(f.getModifiers());
            fields += isStatic ? 0 : 1;
            Checks.due("final if static: " + f, !isStatic || Modifier.isFinal(f.getModifiers()), true);
        }
        Checks.due("at most twenty fields in " + c, fields <= 20, true);
        for (Method m : c.getDeclaredMethods()) {
            boolean isFace = c == StickRace.class && Modifier.isPublic(m.getModifiers());
            Checks.due("not a name of the face: " + m, isFace || !face.contains(m.getName()), true);
            Checks.due("at most seven parameters: " + m, m.getParameterCount() <= 7, true);
        }
        if (c != StickRace.class) {
            Checks.due("static: " + c, Modifier.isStatic(c.getModifiers()), true);
            Checks.due("not public: " + c, Modifier.isPublic(c.getModifiers()), false);
        }
        List<Member> members = new ArrayList<>(Arrays.asList(c.getDeclaredMethods()));
        members.addAll(Arrays.asList(c.getDeclaredFields()));
        for (Member m : members) {
            boolean free = c == StickRace.class || !Modifier.isPublic(m.getModifiers());
            Checks.due("not public inside: " + m, free, true);
        }
    }

    private static void absent(String text, String pattern) {
        Matcher m = Pattern.compile(pattern).matcher(text);
        if (m.find()) {
            Checks.due("\"" + m.group() + "\" found in the text (0: no)", 1, 0);
        } else {
            Checks.due("absent", 0, 0);
        }
    }

    private static void text(String source) {
        absent(source, "[^\\x0A\\x20-\\x7E]");
        String code = source.replaceAll("(?s)/\\*.*?\\*/", "").replaceAll("//[^\n]*", "");
        absent(code, "->");
        absent(code, "::");
        absent(code, "\\b(package|synchronized|assert|finally|try|catch|native|volatile|transient|var|record)\\b");
        absent(code, "\\b(System\\.(?!arraycopy)|Thread|Random|Exact\\b|hashCode|toString|Object\\b|Math\\.)");
        absent(code, "\\+ \"|\" \\+");
        absent(code, "static \\{");
        absent(code, "\\b(ArrayIndexOutOfBounds|NullPointer|Arithmetic|ClassCast|NegativeArraySize|ArrayStore)");
        for (String line : code.split("\n")) {
            if (line.startsWith("import ")) {
                boolean listed = line.equals("import java.util.Arrays;")
                    || line.equals("import java.util.NoSuchElementException;");
                Checks.due(line, listed, true);
            }
        }
        int lines = 0;
        String head = "";
        for (String line : code.split("\n")) {
            if (line.matches("( {4}| {8})\\S.*\\) (throws \\w+ )?\\{")) {
                head = line.trim();
                lines = 0;
            }
            lines++;
            Checks.due("at most sixty lines: " + head, !head.isEmpty() && lines > 61, false);
            if (line.matches("( {4}| {8})\\}")) {
                head = "";
            }
        }
    }
}
