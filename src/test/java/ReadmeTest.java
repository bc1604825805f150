import java.io.IOException;
import java.lang.reflect.Method;
import java.nio.file.Files;
import java.nio.file.Path;
import java.util.Set;
import java.util.TreeSet;
import java.util.regex.MatchResult;
import java.util.regex.Matcher;
import java.util.regex.Pattern;
import java.util.stream.Collectors;
import java.util.stream.Stream;

/** What README.md says: its examples answer what they tell, and its table lists the tests that there are. */
public final class ReadmeTest {
    private static final Pattern EXAMPLE = Pattern.compile("(?s)```java\n(.*?)```");
    private static final Pattern CALL = Pattern.compile("puzzle\\.(\\w+)\\((.*?)\\); +// (-?\\d+)(:.*)?");
    private static final Pattern TYPING = Pattern.compile("for \\(char letter : \"(.*)\"\\.toCharArray\\(\\)\\) \\{");
    private static final Set<String> SILENT = Set.of("    puzzle.type(letter);", "}");

    public static void main(String[] args) throws IllegalAccessException {
        Cases.run(ReadmeTest.class);
    }

    static void examples() throws IOException, ReflectiveOperationException {
        Matcher examples = EXAMPLE.matcher(readme());
        int found = 0;
        for (; examples.find(); found++) {
            run(examples.group(1));
        }
        Due.is("examples", found, 3);
    }

    static void listOfTests() throws IOException {
        Set<String> listed = Pattern.compile("(?m)^\\| `(\\w+)` \\|").matcher(readme()).results()
                .map((MatchResult row) -> row.group(1)).collect(Collectors.toCollection(TreeSet::new));
        try (Stream<Path> files = Files.list(Path.of("src/test/java"))) {
            Set<String> there = files.map(file -> file.getFileName().toString().replace(".java", ""))
                    .filter(name -> name.endsWith("Test")).collect(Collectors.toCollection(TreeSet::new));
            Due.is("are the listed tests " + listed + " those in src/test/java " + there + "? That",
                    listed.equals(there) ? 1 : 0, 1);
        }
    }

    private static String readme() throws IOException {
        return Files.readString(Path.of("README.md"));
    }

    private static void run(String example) throws ReflectiveOperationException {
        PictureClues puzzle = null;
        for (String line : example.split("\n")) {
            Matcher call = CALL.matcher(line);
            Matcher typing = TYPING.matcher(line);
            if (line.equals("PictureClues puzzle = new PictureClues();")) {
                puzzle = new PictureClues();
            } else if (call.matches()) {
                Due.is(line, call(puzzle, call.group(1), call.group(2)), Long.parseLong(call.group(3)));
            } else if (typing.matches()) {
                Puzzles.type(puzzle, typing.group(1));
            } else {
                Due.is("is '" + line + "' known here? That", SILENT.contains(line) ? 1 : 0, 1);
            }
        }
    }

    private static long call(PictureClues puzzle, String name, String list) throws ReflectiveOperationException {
        String[] parts = list.isEmpty() ? new String[0] : list.split(", ");
        Class<?>[] types = new Class<?>[parts.length];
        Object[] numbers = new Object[parts.length];
        for (int i = 0; i < parts.length; i++) {
            types[i] = int.class;
            numbers[i] = parts[i].startsWith("'") ? (int) parts[i].charAt(1) : Integer.parseInt(parts[i]);
        }
        Method method = PictureClues.class.getMethod(name, types);
        return ((Number) method.invoke(puzzle, numbers)).longValue();
    }
}
