import java.io.IOException;
import java.lang.reflect.Field;
import java.lang.reflect.Method;
import java.lang.reflect.Modifier;
import java.nio.file.Files;
import java.nio.file.Path;
import java.util.Arrays;
import java.util.Set;
import java.util.TreeSet;
import java.util.regex.Matcher;
import java.util.regex.Pattern;

/** The face of the class, and those rules of LANGUAGE.md that can be seen from the text or the classes. */
public final class LanguageTest {
    private static final Checks CHECKS = new Checks();
    private static final String[] FACE = {
        "page(int, int)", "write(int, int, int)", "sides(int, int)", "ofPage(int, int)",
        "piece(int, int, int, int, int)", "about(int, int)", "word(int, int)", "clash(int, int)", "say(int)", "wipe()",
        "fault()", "order(int, int, int, int, int, boolean)", "wants(int, int, int)", "changes(int, int)",
        "set(int, int)", "list(int, int, int)", "name(int, int)", "counts(int, int, int)", "likely(int, int, int)",
        "asked(int, int)", "served(int, int, int)", "find(int, int, boolean)", "misses(int, int, int, int)",
        "reader(int, int, int)", "slips(int, int, int)", "parted(int, int)", "send(int, int)", "miss(int)",
        "bill(int, int)", "file(int, int)", "old(int, int, int, int)", "told(int)"};
    private static final String[] FORBIDDEN = {
        "throw", "throws", "try", "catch", "finally", "synchronized", "assert", "import", "package", "->", "::", "String",
        "Object", "equals", "hashCode", "toString", "System", "Thread", "Random", "@"};

    public static void main(String[] args) throws IOException {
        face();
        nested();
        text(Files.readString(Path.of("src/main/java/CutBureau.java")));
        CHECKS.end();
    }

    private static String signature(Method m) {
        String kinds = String.join(", ", Arrays.stream(m.getParameterTypes()).map(Class::getSimpleName).toList());
        return m.getName() + "(" + kinds + ")";
    }

    private static void face() {
        CHECKS.about("rule 1");
        Set<String> open = new TreeSet<>();
        Set<String> openNames = new TreeSet<>();
        for (Method m : CutBureau.class.getDeclaredMethods()) {
            if (Modifier.isPublic(m.getModifiers())) {
                open.add(signature(m));
                openNames.add(m.getName());
                CHECKS.dueTrue(m + " answers no int", m.getReturnType() == int.class);
                CHECKS.dueTrue(m + " is static", !Modifier.isStatic(m.getModifiers()));
            } else {
                CHECKS.dueTrue(m + " is not private", Modifier.isPrivate(m.getModifiers()));
            }
        }
        CHECKS.dueTrue("the face is another one: " + open, open.equals(new TreeSet<>(Arrays.asList(FACE))));
        for (Class<?> c : CutBureau.class.getDeclaredClasses()) {
            for (Method m : c.getDeclaredMethods()) {
                CHECKS.dueTrue(m + " bears a name of the face", !openNames.contains(m.getName()));
            }
        }
        for (Method m : CutBureau.class.getDeclaredMethods()) {
            CHECKS.dueTrue(m + " bears a name of the face",
                    Modifier.isPublic(m.getModifiers()) || !openNames.contains(m.getName()));
        }
        Set<String> constants = new TreeSet<>();
        for (Field f : CutBureau.class.getDeclaredFields()) {
            if (!Modifier.isPrivate(f.getModifiers())) {
                constants.add(f.getName());
            }
        }
        CHECKS.dueTrue("other constants: " + constants,
                constants.equals(Set.of("UNKNOWN", "OUTSIDE", "STATE", "FULL", "NO", "NONE")));
        CHECKS.dueTrue("not final", Modifier.isFinal(CutBureau.class.getModifiers()));
        CHECKS.due("constructors", CutBureau.class.getConstructors().length, 1);
        CHECKS.due("UNKNOWN", CutBureau.UNKNOWN, -1);
        CHECKS.due("OUTSIDE", CutBureau.OUTSIDE, -2);
        CHECKS.due("STATE", CutBureau.STATE, -3);
        CHECKS.due("FULL", CutBureau.FULL, -4);
        CHECKS.due("NO", CutBureau.NO, -5);
        CHECKS.due("NONE", CutBureau.NONE, -6);
    }

    private static void nested() {
        CHECKS.about("rules 2, 5, 11");
        CHECKS.dueTrue("too many classes", CutBureau.class.getDeclaredClasses().length <= 11);
        checkMembers(CutBureau.class);
        for (Class<?> c : CutBureau.class.getDeclaredClasses()) {
            CHECKS.dueTrue(c + " is not static", Modifier.isStatic(c.getModifiers()));
            CHECKS.dueTrue(c + " is open", !Modifier.isPublic(c.getModifiers()));
            checkMembers(c);
        }
    }

    private static void checkMembers(Class<?> c) {
        int fields = 0;
        for (Field f : c.getDeclaredFields()) {
            boolean stat = Modifier.isStatic(f.getModifiers());
            CHECKS.dueTrue(f + " is not final", !stat || Modifier.isFinal(f.getModifiers()));
            fields += stat ? 0 : 1;
        }
        CHECKS.dueTrue(c + " has too many fields", fields <= 20);
        for (Method m : c.getDeclaredMethods()) {
            CHECKS.dueTrue(m + " takes too much", m.getParameterCount() <= 7);
        }
    }

    private static void text(String source) {
        CHECKS.about("rules 3, 4, 6, 11");
        String code = source.replaceAll("(?s)/\\*.*?\\*/", "").replaceAll("//[^\n]*", "");
        for (String word : FORBIDDEN) {
            String edge = Character.isLetter(word.charAt(0)) ? "\\b" : "";
            Matcher found = Pattern.compile(edge + Pattern.quote(word) + edge).matcher(code);
            CHECKS.dueTrue("there is " + word, !found.find());
        }
        Matcher library = Pattern.compile("\\b(Math|Integer|Long|Arrays)\\.(\\w+)").matcher(code);
        while (library.find()) {
            CHECKS.dueTrue("there is " + library.group(), Set.of("min", "max", "bitCount").contains(library.group(2)));
        }
        Matcher letters = Pattern.compile("[^\\x00-\\x7f]").matcher(source);
        CHECKS.dueTrue("a sign that is not plain", !letters.find());
        String indent = "";
        int start = 0;
        String[] lines = source.split("\n");
        for (int i = 0; i < lines.length; i++) {
            if (lines[i].matches(" +(?!(if|for|while|switch|else|return) ?)[\\w\\[\\] ]+\\(.*\\) \\{")) {
                start = i;
                indent = lines[i].replaceAll("\\S.*", "");
            }
            boolean ends = lines[i].equals(indent + "}");
            CHECKS.dueTrue("the method at line " + (start + 1) + " is too long", !ends || i - start < 60 || start == 0);
            CHECKS.dueTrue("line " + (i + 1) + " is too long", lines[i].length() <= 120);
        }
    }
}
