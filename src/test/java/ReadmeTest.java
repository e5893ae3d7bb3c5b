import java.io.IOException;
import java.nio.file.Files;
import java.nio.file.Path;
import java.util.Arrays;
import java.util.HashMap;
import java.util.List;
import java.util.Map;
import java.util.Set;
import java.util.TreeSet;
import java.util.regex.Matcher;
import java.util.regex.Pattern;

/** What README.md's example shows is what the class answers, and its table has each call of the face. */
public final class ReadmeTest {
    private static final Pattern MAKING = Pattern.compile("PrimeBench (\\w+) = new PrimeBench\\((.*)\\);");
    private static final Pattern CALL = Pattern.compile("(\\w+)\\.(\\w+)\\((.*)\\); +// (-?\\w+)(, .*)?");
    private static final Pattern TABLE_CALL = Pattern.compile("\\| `(\\w+ \\w+\\(.*?\\))` \\|");
    private static final Due due = new Due();
    private static final Map<String, PrimeBench> objects = new HashMap<>();
    private static final Set<String> shown = new TreeSet<>();

    /** README.md is looked for in the directory where the test is run. */
    public static void main(String[] args) throws IOException, ReflectiveOperationException {
        List<String> lines = Files.readAllLines(Path.of("README.md"));
        due.sentence("README.md, the example");
        int first = lines.indexOf("```java") + 1;
        for (int k = first; !lines.get(k).equals("```"); k++) {
            exampleLine(lines.get(k));
        }
        Set<String> face = new TreeSet<>(Arrays.asList(FaceTest.FACE));
        for (String call : face) {
            String name = call.substring(call.indexOf(' ') + 1, call.indexOf('('));
            due.is(name + " is shown", shown.contains(name), true);
        }
        due.sentence("README.md, the table of the calls");
        Set<String> table = table(lines);
        due.is("the calls " + table + " are the face", table.equals(face), true);
        due.end();
    }

    private static void exampleLine(String line) throws ReflectiveOperationException {
        Matcher making = MAKING.matcher(line);
        Matcher call = CALL.matcher(line);
        if (making.matches()) {
            int[] numbers = numbers(making.group(2));
            objects.put(making.group(1), new PrimeBench(numbers[0], numbers[1], numbers[2]));
        } else if (call.matches()) {
            shown.add(call.group(2));
            String answer = answer(objects.get(call.group(1)), call.group(2), numbers(call.group(3)));
            due.is("'" + line + "', the class answers " + answer + ": as shown", answer.equals(call.group(4)), true);
        } else {
            due.is("'" + line + "' is a line that this test knows", line.isEmpty(), true);
        }
    }

    private static int[] numbers(String text) {
        return text.isEmpty() ? new int[0] : Arrays.stream(text.split(", ")).mapToInt(Integer::parseInt).toArray();
    }

    private static String answer(PrimeBench x, String name, int[] numbers) throws ReflectiveOperationException {
        Class<?>[] types = new Class<?>[numbers.length];
        Arrays.fill(types, int.class);
        Object[] boxed = Arrays.stream(numbers).boxed().toArray();
        return String.valueOf(PrimeBench.class.getMethod(name, types).invoke(x, boxed));
    }

    /** The calls that a line of a table begins with, without the names of what they take. */
    private static Set<String> table(List<String> lines) {
        Set<String> calls = new TreeSet<>();
        for (String line : lines) {
            Matcher begin = TABLE_CALL.matcher(line);
            if (begin.lookingAt()) {
                calls.add(begin.group(1).replaceAll("int \\w([,)])", "int$1"));
            }
        }
        return calls;
    }
}
