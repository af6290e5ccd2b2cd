import java.io.IOException;
import java.lang.reflect.Method;
import java.nio.file.Files;
import java.nio.file.Path;
import java.util.Arrays;
import java.util.List;
import java.util.Map;
import java.util.Set;
import java.util.TreeMap;
import java.util.TreeSet;
import java.util.regex.Matcher;
import java.util.regex.Pattern;

/**
 * The examples of README.md: each call answers the number that stands behind it. Its table of refusals:
 * each number stands beside the calls whose promises name it in the document.
 */
public final class ReadmeTest {
    private static final Pattern BLOCK = Pattern.compile("(?s)```java\n(.*?)```");
    private static final Pattern CALL = Pattern.compile("x\\.(\\w+)\\((.*)\\);\\s+// (-?\\d+)(:.*)?");
    private static final Pattern ROW = Pattern.compile("(?m)^\\| (?:(-\\d+)|`NO`)(?: `(\\w+)`)?(?: [^|]*)? \\| ([^|]*) \\| [^|]* \\|$");
    private static final Pattern REFUSAL = Pattern.compile("\\b(BAD|STATE|FULL|NONE|NO)\\b|-1000\\b|-100\\b|-1[1-4]\\b");
    private static final String MADE = "ArmpitLine x = new ArmpitLine();";

    public static void main(String[] args) throws IOException, ReflectiveOperationException {
        String readme = Files.readString(Path.of("README.md"));
        Matcher block = BLOCK.matcher(readme);
        while (block.find()) {
            runBlock(block.group(1).split("\n"));
        }
        refusals(readme);
        Due.end();
    }

    private static void refusals(String readme) {
        Map<String, Set<String>> told = new TreeMap<>();
        Matcher row = ROW.matcher(readme);
        while (row.find()) {
            String number = row.group(2) != null ? row.group(2) : row.group(1) != null ? row.group(1) : "NO";
            told.put(number, new TreeSet<>(Arrays.asList(row.group(3).replace("`", "").split(", "))));
        }
        Map<String, Set<String>> due = new TreeMap<>();
        List<String> face = Doc.face();
        for (int k = 0; k < face.size(); k++) {
            Matcher refusal = REFUSAL.matcher(Doc.words("Promise " + (k + 2)));
            while (refusal.find()) {
                due.computeIfAbsent(refusal.group(), n -> new TreeSet<>()).add(face.get(k).replaceAll("\\w+ (\\w+)\\(.*", "$1"));
            }
        }
        // the words of TURNS, which told() answers, have it
        due.computeIfAbsent("NONE", n -> new TreeSet<>()).add("told");
        Due.holds("refusals are " + due + ", not " + told, told.equals(due));
    }

    private static void runBlock(String[] lines) throws ReflectiveOperationException {
        Due.holds("a block begins with " + MADE, lines[0].equals(MADE));
        ArmpitLine x = new ArmpitLine();
        for (int i = 1; i < lines.length; i++) {
            Matcher call = CALL.matcher(lines[i]);
            boolean isCall = call.matches();
            Due.holds("a call and its answer: " + lines[i], isCall);
            if (isCall) {
                Due.is(lines[i], answer(x, call.group(1), call.group(2)), Long.parseLong(call.group(3)));
            }
        }
    }

    private static long answer(ArmpitLine x, String name, String told) throws ReflectiveOperationException {
        String[] numbers = told.isEmpty() ? new String[0] : told.split(", ");
        for (Method m : ArmpitLine.class.getMethods()) {
            if (m.getName().equals(name) && m.getParameterCount() == numbers.length) {
                return ((Number) m.invoke(x, arguments(m, numbers))).longValue();
            }
        }
        throw new NoSuchMethodException(name + " with " + numbers.length);
    }

    private static Object[] arguments(Method m, String[] numbers) {
        Object[] arguments = new Object[numbers.length];
        for (int a = 0; a < numbers.length; a++) {
            long v = Long.decode(numbers[a].replace("L", ""));
            arguments[a] = m.getParameterTypes()[a] == long.class ? (Object) v : (Object) (int) v;
        }
        return arguments;
    }
}
