import com.sun.management.ThreadMXBean;
import java.io.IOException;
import java.lang.management.ManagementFactory;
import java.lang.reflect.Field;
import java.lang.reflect.Method;
import java.lang.reflect.Modifier;
import java.nio.file.Files;
import java.nio.file.Path;
import java.util.ArrayList;
import java.util.Arrays;
import java.util.Collections;
import java.util.List;
import java.util.Set;
import java.util.TreeSet;
import java.util.regex.Matcher;
import java.util.regex.Pattern;

/** Rules of LANGUAGE.md that can be seen from outside, and what calls make. */
public final class RulesTest {
    public static void main(String[] args) throws IOException {
        members();
        nested();
        source();
        made();
        neverThrown();
        Due.end();
    }

    private static void members() {
        Set<String> names = new TreeSet<>();
        for (Method m : ArmpitLine.class.getDeclaredMethods()) {
            if (!Modifier.isPrivate(m.getModifiers())) {
                names.add(m.getName());
            }
        }
        for (Method m : ArmpitLine.class.getDeclaredMethods()) {
            Due.holds("no private method with a public name: " + m, !Modifier.isPrivate(m.getModifiers()) || !names.contains(m.getName()));
        }
        for (Field f : ArmpitLine.class.getDeclaredFields()) {
            Due.holds("static ones are final: " + f, !Modifier.isStatic(f.getModifiers()) || Modifier.isFinal(f.getModifiers()));
        }
    }

    private static void nested() {
        Class<?>[] inside = ArmpitLine.class.getDeclaredClasses();
        Due.holds("some twelve classes: " + inside.length, inside.length <= 12);
        for (Class<?> c : inside) {
            Due.holds("static, not public: " + c, Modifier.isStatic(c.getModifiers())
                    && !Modifier.isPublic(c.getModifiers()) && !Modifier.isProtected(c.getModifiers()));
            Due.holds("some twenty fields: " + c, c.getDeclaredFields().length <= 20);
            for (Method m : c.getDeclaredMethods()) {
                Due.holds("seven parameters: " + m, m.getParameterCount() <= 7);
            }
        }
    }

    /** The source without comments and texts. */
    private static String bare(String source) {
        String noComments = source.replaceAll("(?s)/\\*.*?\\*/", " ").replaceAll("//[^\n]*", " ");
        return noComments.replaceAll("\"[^\"\n]*\"", "\"\"").replaceAll("'[^'\n]*'", "' '");
    }

    private static void source() throws IOException {
        String source = Files.readString(Path.of("src/main/java/ArmpitLine.java"));
        String code = bare(source);
        String[] never = {"throw", "throws", "try", "catch", "finally", "synchronized", "assert", "import", "package",
            "native", "volatile", "transient", "protected", "var", "Object", "Random", "System.out", "Thread", "enum"};
        for (String word : never) {
            Due.holds("no " + word, !Pattern.compile("\\b" + Pattern.quote(word) + "\\b").matcher(code).find());
        }
        Due.holds("no lambda, no reference to a method", !code.contains("->") && !code.contains("::"));
        Due.holds("no name that ends in Exact", !Pattern.compile("\\w+Exact\\b").matcher(code).find());
        Due.holds("signs 1 to 127 alone", source.chars().allMatch(c -> c > 0 && c < 128));
        List<String> library = new ArrayList<>();
        Matcher m = Pattern.compile("\\b(Math|Integer|Long|Arrays|System)\\.(\\w+)").matcher(code);
        while (m.find()) {
            library.add(m.group(2));
        }
        library.removeAll(Arrays.asList("max", "min", "bitCount", "arraycopy"));
        Due.is("of the library nothing else: " + library, library.size(), 0);
        int longest = longestMethod(code);
        Due.holds("methods stay short: " + longest, longest <= 60);
        Due.holds("objects are made with the object alone", madeInFields(code));
    }

    private static int longestMethod(String code) {
        int longest = 0;
        int start = -1;
        String[] lines = code.split("\n");
        for (int i = 0; i < lines.length; i++) {
            if (lines[i].matches("( {4}| {8})[a-z].*\\) \\{")) {
                start = i;
            } else if (start >= 0 && lines[i].matches("( {4}| {8})\\}")) {
                longest = Math.max(longest, i - start + 1);
                start = -1;
            }
        }
        return longest;
    }

    private static boolean madeInFields(String code) {
        for (String line : code.split("\n")) {
            if (line.contains("new ") && !line.matches("\\s+(private )?final \\S+ \\w+ = new .*;")) {
                System.out.println("made elsewhere: " + line);
                return false;
            }
        }
        return true;
    }

    /** Rule 7: each call, with numbers from far below to far above, on a new object and on one with much in it. */
    private static void neverThrown() {
        int[] numbers = {Integer.MIN_VALUE, -1, 0, 1, 2, 5, 10, 999, Integer.MAX_VALUE};
        for (Method m : ArmpitLine.class.getDeclaredMethods()) {
            if (Modifier.isPublic(m.getModifiers())) {
                ArmpitLine filled = new ArmpitLine();
                dearRun(filled);
                int calls = (int) Math.pow(numbers.length, m.getParameterCount());
                for (int k = 0; k < calls; k++) {
                    String thrown = thrownBy(m, new ArmpitLine(), numbers, k) + thrownBy(m, filled, numbers, k);
                    Due.holds(m.getName() + " throws " + thrown, thrown.isEmpty());
                }
            }
        }
    }

    /** What a call throws whose arguments are told by the digits of k; nothing, as is due. */
    private static String thrownBy(Method m, ArmpitLine x, int[] numbers, int k) {
        Object[] arguments = new Object[m.getParameterCount()];
        int rest = k;
        for (int a = 0; a < arguments.length; a++) {
            int v = numbers[rest % numbers.length];
            arguments[a] = m.getParameterTypes()[a] == long.class ? (Object) (long) v : (Object) v;
            rest /= numbers.length;
        }
        try {
            m.invoke(x, arguments);
            return "";
        } catch (ReflectiveOperationException e) {
            return e.getCause() + " with " + Arrays.toString(arguments) + " ";
        }
    }

    /** Rows are made in constructors: a run of the dearest calls makes nothing more. */
    private static void made() {
        ThreadMXBean bean = (ThreadMXBean) ManagementFactory.getThreadMXBean();
        long thread = Thread.currentThread().getId();
        List<Long> makings = new ArrayList<>();
        List<Long> runs = new ArrayList<>();
        for (int again = 0; again < 20; again++) {
            long before = bean.getThreadAllocatedBytes(thread);
            ArmpitLine x = new ArmpitLine();
            long between = bean.getThreadAllocatedBytes(thread);
            dearRun(x);
            makings.add(between - before);
            runs.add(bean.getThreadAllocatedBytes(thread) - between);
        }
        Due.holds("bytes of an object: " + Collections.min(makings), Collections.min(makings) < 40000);
        Due.holds("bytes of a run: " + Collections.min(runs), Collections.min(runs) < 2000);
    }

    private static void dearRun(ArmpitLine x) {
        for (int m = 0; m < 10; m++) {
            x.man(m % 4, 1000 + m, m - 5);
        }
        x.camera(3, 1, 5);
        x.crosser(7, 9);
        for (int c = 0; c < 24; c++) {
            x.call(c % 6, c % 10, (c + 1) % 10, c, 0);
        }
        for (int m = 0; m < 12; m++) {
            x.match(m % 3 * 10 + 3, 0, (1 << 24) - 1);
        }
        x.sheet(0, 2, 8);
        for (int round = 0; round < 5; round++) {
            x.feed(8, 0x6e756f6320202020L);
            x.text();
            for (int c = 0; c < 24; c++) {
                x.told(c, 9);
                x.told(c, 6);
            }
            x.season(0);
            x.best(0, (1 << 24) - 1, 101);
            x.wrong(0, (1 << 24) - 1, 7, 1);
            x.stand(0, 9, (1 << 24) - 1);
            x.shown(round, 0);
            x.split();
            x.image();
            x.back();
            x.copy(0, 0, 0, 1, 7);
            x.men(0, 2, 0, 2);
        }
    }
}
