import java.io.IOException;
import java.lang.reflect.Constructor;
import java.lang.reflect.Field;
import java.lang.reflect.Method;
import java.lang.reflect.Modifier;
import java.nio.file.Files;
import java.nio.file.Path;
import java.util.HashSet;
import java.util.List;
import java.util.Set;
import java.util.TreeSet;
import java.util.regex.Matcher;
import java.util.regex.Pattern;

/** What ../shared/LANGUAGE.md asks, as far as it can be seen from the source and the class. */
public final class LanguageTest {
    private static final String FACE = "alike between both compare count depth drop erase fault first has letter many "
            + "moves of parted partner places reader row run shortest watch write";
    private static final List<String> FORBIDDEN = List.of("throw", "try", "catch", "synchronized", "assert", "import",
            "package", "finally", "native", "volatile", "transient", "instanceof", "->", "::", "\\d[.]\\d", "Exact\\(",
            "hashCode", "toString", "System", "Object", "while \\(true\\)", "for \\(;;\\)");
    private static final Set<String> LIBRARY = Set.of("String", "StringBuilder", "Math", "Integer", "Long", "Arrays",
            "ArrayList", "List");
    private static final int MOST_LINES = 60;

    private static final Check check = new Check("LanguageTest");

    public static void main(String[] args) throws IOException {
        String source = Files.readString(Path.of(args[0]));
        words(source);
        methodLengths(source);
        face();
        inside();
        check.end();
    }

    private static void words(String source) {
        String code = source.replaceAll("(?s)/\\*.*?\\*/", "").replaceAll("//.*", "").replaceAll("\"[^\"\n]*\"", "\"\"");
        for (String word : FORBIDDEN) {
            boolean plain = word.chars().allMatch(Character::isLetter);
            Matcher found = Pattern.compile(plain ? "\\b" + word + "\\b" : word).matcher(code);
            check.yes("rules 4, 6, 9: \"" + word + "\" does not stand in the code", !found.find());
        }
        Matcher names = Pattern.compile("\\b[A-Z][a-z]\\w*\\b").matcher(code);
        Set<String> own = new HashSet<>(Set.of("NestReaders"));
        for (Class<?> c : NestReaders.class.getDeclaredClasses()) {
            own.add(c.getSimpleName());
        }
        while (names.find()) {
            check.yes("rule 4: " + names.group(), own.contains(names.group()) || LIBRARY.contains(names.group()));
        }
        for (int i = 0; i < source.length(); i++) {
            if (source.charAt(i) > 126) {
                check.yes("rule 4: sign at " + i, false);
            }
        }
    }

    private static void methodLengths(String source) {
        int begin = -1;
        String[] lines = source.split("\n");
        for (int i = 0; i < lines.length; i++) {
            if (lines[i].matches(" {4}( {4})?[\\w\\[\\]<> ]+\\(.*\\) \\{") && !lines[i].contains(" class ")) {
                begin = i;
            }
            if (begin >= 0 && lines[i].matches(" {4}( {4})?\\}")) {
                check.yes("rule 11: the method of line " + (begin + 1) + " is short", i - begin < MOST_LINES);
                begin = -1;
            }
        }
    }

    private static void face() {
        Set<String> names = new TreeSet<>();
        for (Method m : NestReaders.class.getDeclaredMethods()) {
            if (Modifier.isPublic(m.getModifiers())) {
                names.add(m.getName());
                check.yes("rule 1: an object's method: " + m, !Modifier.isStatic(m.getModifiers()));
            } else {
                check.yes("rule 1: private: " + m, Modifier.isPrivate(m.getModifiers()));
            }
        }
        check.yes("rule 1: the face: " + names, String.join(" ", names).equals(FACE));
        Constructor<?>[] made = NestReaders.class.getDeclaredConstructors();
        check.yes("rule 1: one constructor", made.length == 1 && Modifier.isPublic(made[0].getModifiers())
                && made[0].getParameterCount() == 0);
        int constants = 0;
        for (Field f : NestReaders.class.getDeclaredFields()) {
            boolean open = Modifier.isPublic(f.getModifiers());
            check.yes("rule 1: " + f, open || Modifier.isPrivate(f.getModifiers()));
            constants += open ? 1 : 0;
        }
        check.due("rule 1: six constants", constants, 6);
        check.yes("rule 1: final", Modifier.isFinal(NestReaders.class.getModifiers()));
    }

    private static void inside() {
        Class<?>[] classes = NestReaders.class.getDeclaredClasses();
        Set<String> face = Set.of(FACE.split(" "));
        check.yes("rule 11: classes " + (classes.length + 1), classes.length + 1 <= 12);
        for (Class<?> c : classes) {
            check.yes("rule 1: static: " + c, Modifier.isStatic(c.getModifiers()) && !Modifier.isPublic(c.getModifiers()));
            for (Method m : c.getDeclaredMethods()) {
                check.yes("rule 1: not a name of the face: " + m, !face.contains(m.getName()));
                check.yes("rule 11: at most seven parameters: " + m, m.getParameterCount() <= 7);
            }
            fields(c);
        }
        fields(NestReaders.class);
        for (Method m : NestReaders.class.getDeclaredMethods()) {
            check.yes("rule 1: no private one has a public one's name: " + m,
                    Modifier.isPublic(m.getModifiers()) || !face.contains(m.getName()));
        }
    }

    private static void fields(Class<?> c) {
        int own = 0;
        for (Field f : c.getDeclaredFields()) {
            if (Modifier.isStatic(f.getModifiers())) {
                check.yes("rule 5: final: " + f, Modifier.isFinal(f.getModifiers()));
            } else {
                own++;
            }
        }
        check.yes("rule 11: fields of " + c + ": " + own, own <= 20);
    }
}
