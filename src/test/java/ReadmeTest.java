import java.io.IOException;
import java.lang.reflect.Method;
import java.lang.reflect.Modifier;
import java.nio.file.Files;
import java.nio.file.Path;
import java.util.ArrayList;
import java.util.Collections;
import java.util.List;
import java.util.Set;
import java.util.TreeSet;
import java.util.regex.Matcher;
import java.util.regex.Pattern;

/** README.md: its example answers what stands there, and its table has the face's calls. */
public final class ReadmeTest {
    private static final Pattern MADE =
            Pattern.compile("CommitDesk desk = new CommitDesk\\((\\d+)\\); +// .*");
    private static final Pattern CALLED = Pattern.compile(
            "desk\\.(\\w+)\\(([-\\d, ]*)\\); +// (true|false|-?\\d+|\\w+Exception)\\b.*");
    private static final Pattern ROW =
            Pattern.compile("\\| `(\\w+)\\(([\\w, ]*)\\)` \\|[^|]*\\|[^|]*\\|([^|]*)\\|");
    private static final Pattern EXCEPTION = Pattern.compile("`(\\w+Exception)` if ");

    public static void main(String[] args) throws IOException {
        Path program = Path.of(System.getProperty("program")).toAbsolutePath().normalize();
        Path root = program.getParent().getParent().getParent().getParent();
        List<String> lines = Files.readAllLines(root.resolve("README.md"));
        Sentences.sentence("the example answers what stands behind its calls",
                () -> example(lines));
        Sentences.sentence("the table has each call, its numbers and what it throws",
                () -> table(lines));
        Sentences.sentence("each test is told", () -> tests(root, lines));
        Sentences.end();
    }

    private static void example(List<String> lines) {
        int begin = lines.indexOf("```java");
        int end = begin + lines.subList(begin, lines.size()).indexOf("```");
        Matcher made = MADE.matcher(lines.get(begin + 1));
        Sentences.same("an object is made first", made.matches(), true);
        Desk desk = new Desk(Integer.parseInt(made.group(1)));
        for (String line : lines.subList(begin + 2, end)) {
            if (!line.isEmpty()) {
                answers(desk, line);
            }
        }
        Sentences.same("calls in the example", desk.calls() > 20, true);
    }

    private static void answers(Desk desk, String line) {
        Matcher call = CALLED.matcher(line);
        if (!call.matches()) {
            Sentences.same("a call and its answer", line, "such a line");
            return;
        }
        String answer = call.group(3);
        boolean isThrown = answer.endsWith("Exception");
        desk.due(isThrown ? "throws." + answer : answer, call.group(1), numbers(call.group(2)));
    }

    private static int[] numbers(String text) {
        String[] parts = text.isEmpty() ? new String[0] : text.split(", ");
        int[] numbers = new int[parts.length];
        for (int i = 0; i < parts.length; i++) {
            numbers[i] = Integer.parseInt(parts[i]);
        }
        return numbers;
    }

    private static void table(List<String> lines) {
        List<String> told = new ArrayList<>();
        for (String line : lines) {
            Matcher row = ROW.matcher(line);
            if (row.matches()) {
                int numbers = row.group(2).isEmpty() ? 0 : row.group(2).split(", ").length;
                told.add(row.group(1) + " " + numbers + thrown(row.group(3)));
            }
        }
        Collections.sort(told);
        Sentences.same("the calls", told, face());
    }

    private static String thrown(String cell) {
        StringBuilder names = new StringBuilder();
        Matcher one = EXCEPTION.matcher(cell);
        while (one.find()) {
            names.append(' ').append(one.group(1));
        }
        boolean isTold = names.length() > 0 || cell.equals(" nothing ");
        return isTold ? names.toString() : " it is not told what";
    }

    private static List<String> face() {
        Set<String> face = new TreeSet<>();
        for (Method method : CommitDesk.class.getDeclaredMethods()) {
            if (Modifier.isPublic(method.getModifiers())) {
                StringBuilder text = new StringBuilder(method.getName());
                text.append(' ').append(method.getParameterCount());
                for (Class<?> type : method.getExceptionTypes()) {
                    text.append(' ').append(type.getSimpleName());
                }
                face.add(text.toString());
            }
        }
        return new ArrayList<>(face);
    }

    private static void tests(Path root, List<String> lines) {
        String text = String.join("\n", lines);
        String[] files = root.resolve("src/test/java").toFile().list();
        for (String file : files == null ? new String[0] : files) {
            String name = file.replace(".java", "");
            Sentences.same(name + " is told", text.contains("`" + name + "`"), true);
        }
    }
}
