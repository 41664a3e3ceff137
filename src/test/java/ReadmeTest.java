import java.io.IOException;
import java.lang.reflect.Method;
import java.lang.reflect.Modifier;
import java.nio.file.Files;
import java.nio.file.Path;
import java.util.Arrays;
import java.util.List;
import java.util.Set;
import java.util.TreeSet;
import java.util.regex.Matcher;
import java.util.regex.Pattern;

/** README.md: its example answers what it says, and both example and table have each call of the public face. */
public final class ReadmeTest {
    private static final Pattern CALL = Pattern.compile("x\\.(\\w+)\\(([-0-9, ]*)\\); +// (-?[0-9]+|no answer).*");
    private static final Pattern ROW = Pattern.compile("\\| `(\\w+)\\(([a-z, ]*)\\)` \\|.+\\|.*\\|");

    private final Checks checks = new Checks();
    private final List<String> lines;

    private ReadmeTest(List<String> lines) {
        this.lines = lines;
    }

    public static void main(String[] args) throws IOException, ReflectiveOperationException {
        ReadmeTest test = new ReadmeTest(Files.readAllLines(Path.of("README.md")));
        test.theExampleAnswersWhatItSays();
        test.theTableHasEachCall();
        test.checks.finish("ReadmeTest");
    }

    private void theExampleAnswersWhatItSays() throws ReflectiveOperationException {
        EndingIndex x = new EndingIndex();
        Set<String> called = new TreeSet<>();
        for (String line : lines) {
            Matcher call = CALL.matcher(line);
            boolean read = call.matches();
            checks.due("can't be read: " + line, line.startsWith("x.") && !read ? 1 : 0, 0);
            if (read) {
                Object[] arguments = numbersIn(call.group(2));
                Object answer = publicMethod(call.group(1), arguments.length).invoke(x, arguments);
                checks.due(line, answer == null ? "no answer" : answer.toString(), call.group(3));
                called.add(call.group(1) + "/" + arguments.length);
            }
        }
        checks.due("the calls of the example", called.toString(), publicFace().toString());
    }

    private void theTableHasEachCall() {
        Set<String> told = new TreeSet<>();
        for (String line : lines) {
            Matcher row = ROW.matcher(line);
            if (row.matches() && !row.group(1).equals("EndingIndex")) {
                told.add(row.group(1) + "/" + partsOf(row.group(2)).length);
            }
        }
        checks.due("the calls of the table", told.toString(), publicFace().toString());
    }

    private static Set<String> publicFace() {
        Set<String> face = new TreeSet<>();
        for (Method method : EndingIndex.class.getDeclaredMethods()) {
            if (Modifier.isPublic(method.getModifiers())) {
                face.add(method.getName() + "/" + method.getParameterCount());
            }
        }
        return face;
    }

    private static Method publicMethod(String name, int parameters) throws NoSuchMethodException {
        Class<?>[] types = new Class<?>[parameters];
        Arrays.fill(types, int.class);
        return EndingIndex.class.getMethod(name, types);
    }

    private static Object[] numbersIn(String list) {
        String[] parts = partsOf(list);
        Object[] numbers = new Object[parts.length];
        for (int j = 0; j < parts.length; j++) {
            numbers[j] = Integer.valueOf(parts[j]);
        }
        return numbers;
    }

    private static String[] partsOf(String list) {
        return list.isEmpty() ? new String[0] : list.split(", ");
    }
}
