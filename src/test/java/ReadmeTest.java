import java.io.IOException;
import java.lang.reflect.Method;
import java.lang.reflect.Modifier;
import java.lang.reflect.Parameter;
import java.nio.file.Files;
import java.nio.file.Path;
import java.util.Set;
import java.util.TreeSet;
import java.util.regex.Matcher;
import java.util.regex.Pattern;
import java.util.stream.Stream;

/** README.md names each call of the face with its numbers, and its example answers what it says there. */
public final class ReadmeTest {
    private static final Pattern CALL = Pattern.compile("bench\\.(\\w+)\\(([^)]*)\\);(?:\\s+// (.*))?");
    private static final Pattern ANSWER = Pattern.compile("(throws )?(-?\\w+).*");

    private static final Checks CHECKS = new Checks("ReadmeTest");

    /** .ci/run starts the tests at the project's root, where README.md is. */
    public static void main(String[] args) throws IOException {
        String readme = Files.readString(Path.of("README.md"));
        Set<String> shown = example(readme);
        for (Method m : TileBench.class.getDeclaredMethods()) {
            if (Modifier.isPublic(m.getModifiers())) {
                CHECKS.holds("README.md tells " + m.getName(), true, tells(readme, m));
                CHECKS.holds("README.md shows " + m.getName(), true, shown.contains(m.getName()));
            }
        }
        CHECKS.holds("README.md tells how tests are run", true, readme.contains(".ci/run"));
        CHECKS.finish();
    }

    /** The names of numbers are not kept in a class: how many there are, and of which kind, is. */
    private static boolean tells(String readme, Method m) {
        StringBuilder numbers = new StringBuilder();
        for (Parameter p : m.getParameters()) {
            numbers.append(numbers.isEmpty() ? "" : ", ").append(p.getType().getName()).append(" \\w+");
        }
        String words = "- `" + m.getReturnType().getName() + " " + m.getName() + "\\(" + numbers + "\\)`: \\w+";
        return Pattern.compile(words).matcher(readme).find();
    }

    /** Makes the calls of the example, one after the other, on one object: which calls it shows. */
    private static Set<String> example(String readme) {
        Set<String> shown = new TreeSet<>();
        TileBench bench = new TileBench();
        for (String line : readme.split("\n")) {
            Matcher call = CALL.matcher(line);
            if (call.matches()) {
                String got = Calls.answer(bench, call.group(1), numbers(call.group(2)));
                CHECKS.same(line, due(call.group(3)), got);
                shown.add(call.group(1));
            }
        }
        return shown;
    }

    private static int[] numbers(String written) {
        return Stream.of(written.split(",")).map(String::trim).filter(word -> !word.isEmpty())
            .mapToInt(Integer::parseInt).toArray();
    }

    private static String due(String comment) {
        if (comment == null) {
            return Calls.DONE;
        }
        Matcher answer = ANSWER.matcher(comment);
        if (!answer.matches()) {
            return comment;
        }
        String word = answer.group(2);
        if (answer.group(1) != null) {
            return "throws." + word;
        }
        return word.equals("true") ? "1" : word.equals("false") ? "0" : word;
    }
}
