import java.io.IOException;
import java.lang.reflect.Constructor;
import java.lang.reflect.Field;
import java.lang.reflect.Member;
import java.lang.reflect.Method;
import java.lang.reflect.Modifier;
import java.nio.file.Files;
import java.nio.file.Path;
import java.util.HashSet;
import java.util.Set;
import java.util.regex.Matcher;
import java.util.regex.Pattern;

/** The rules of LANGUAGE.md that the source or the compiled class shows easily. */
public final class LanguageTest {
    private static final Set<String> FACE = Set.of("start", "addBlock", "setClue", "line", "block", "paint", "takeClues",
            "picture", "type", "clear", "load", "setMark", "mark", "clearMarks", "narrow", "trial", "solutions", "solve",
            "difficulty", "mistakes", "hint", "hinted", "takeHint", "undo", "count", "digest");
    private static final Set<String> CONSTANTS = Set.of("NONE", "BAD", "STATE", "WRONG");

    public static void main(String[] args) throws IOException {
        constants();
        face();
        classesInside();
        source(Files.readString(Path.of("src/main/java/PictureClues.java")));
        Due.end();
    }

    private static void constants() {
        Due.is("NONE", PictureClues.NONE, -1);
        Due.is("BAD", PictureClues.BAD, -2);
        Due.is("STATE", PictureClues.STATE, -3);
        Due.is("WRONG", PictureClues.WRONG, -4);
    }

    /** Rule 1. */
    private static void face() {
        Set<String> names = new HashSet<>();
        for (Method method : PictureClues.class.getDeclaredMethods()) {
            boolean ofFace = FACE.contains(method.getName());
            Due.is("public " + method.getName(), Modifier.isPublic(method.getModifiers()) ? 1 : 0, ofFace ? 1 : 0);
            hidden(method, ofFace);
            Due.is("a second " + method.getName(), ofFace && !names.add(method.getName()) ? 1 : 0, 0);
        }
        Due.is("methods of the face", names.size(), FACE.size());
        for (Field field : PictureClues.class.getDeclaredFields()) {
            hidden(field, CONSTANTS.contains(field.getName()));
        }
        for (Constructor<?> constructor : PictureClues.class.getDeclaredConstructors()) {
            hidden(constructor, constructor.getParameterCount() == 0);
        }
        Due.is("public final", PictureClues.class.getModifiers() & (Modifier.PUBLIC | Modifier.FINAL),
                Modifier.PUBLIC | Modifier.FINAL);
    }

    private static void hidden(Member member, boolean open) {
        boolean isPrivate = Modifier.isPrivate(member.getModifiers()) || member.isSynthetic();
        Due.is("private " + member.getName(), isPrivate ? 1 : 0, open ? 0 : 1);
    }

    /** Rules 2, 5 and 11. */
    private static void classesInside() {
        Class<?>[] inside = PictureClues.class.getDeclaredClasses();
        Due.is("at most twelve classes", inside.length <= 11 ? 1 : 0, 1);
        checkFields(PictureClues.class);
        for (Class<?> one : inside) {
            Due.is("static " + one, Modifier.isStatic(one.getModifiers()) ? 1 : 0, 1);
            checkFields(one);
        }
    }

    private static void checkFields(Class<?> of) {
        int fields = 0;
        for (Field field : of.getDeclaredFields()) {
            if (!Modifier.isStatic(field.getModifiers())) {
                fields++;
            } else {
                Due.is("final " + field, Modifier.isFinal(field.getModifiers()) ? 1 : 0, 1);
            }
        }
        Due.is("at most twenty fields in " + of, fields <= 20 ? 1 : 0, 1);
        for (Method method : of.getDeclaredMethods()) {
            Due.is("at most seven parameters of " + method, method.getParameterCount() <= 7 ? 1 : 0, 1);
        }
    }

    /** Rules 4, 6, 10, 11 and 13. */
    private static void source(String text) {
        String code = text.replaceAll("(?s)/\\*.*?\\*/", "").replaceAll("//[^\n]*", "");
        absent(code, "\\b(throw|throws|try|catch|synchronized|assert|package|native|volatile|transient)\\b");
        absent(code, "->|::|\\b(Exception|Error|Throwable|Thread|Random|System\\.(?!arraycopy)\\w+)\\b");
        absent(code, "\\b(equals|hashCode|toString)\\b|\\w+Exact\\b|\"\\s*\\+|\\+\\s*\"");
        Matcher imports = Pattern.compile("import ([^;]*);").matcher(code);
        while (imports.find()) {
            Due.is("import " + imports.group(1),
                    Set.of("java.util.Arrays", "java.util.ArrayList", "java.util.List").contains(imports.group(1)) ? 1 : 0, 1);
        }
        Matcher calls = Pattern.compile("\\b(Arrays|Math|Integer|Long|System)\\.(\\w+)").matcher(code);
        while (calls.find()) {
            Due.is("library call " + calls.group(), Set.of("fill", "copyOf", "copyOfRange", "compare", "max", "min", "abs",
                    "bitCount", "floorDiv", "floorMod", "arraycopy").contains(calls.group(2)) ? 1 : 0, 1);
        }
        int begin = 0;
        String[] lines = text.split("\n");
        for (int i = 0; i < lines.length; i++) {
            if (lines[i].matches(" {4,8}[A-Za-z].*\\) \\{")) {
                begin = i;
            } else if (lines[i].matches(" {4,8}\\}")) {
                Due.is("a short method at line " + begin, i - begin <= 60 ? 1 : 0, 1);
                begin = i;
            }
        }
    }

    private static void absent(String code, String words) {
        Matcher found = Pattern.compile(words).matcher(code);
        while (found.find()) {
            Due.is("in the source '" + found.group() + "'", 1, 0);
        }
    }
}
