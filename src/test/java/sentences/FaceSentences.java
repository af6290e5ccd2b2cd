import java.io.IOException;
import java.lang.reflect.Constructor;
import java.lang.reflect.Field;
import java.lang.reflect.Member;
import java.lang.reflect.Method;
import java.lang.reflect.Modifier;
import java.nio.file.Files;
import java.nio.file.Path;
import java.util.ArrayList;
import java.util.List;
import java.util.Set;
import java.util.TreeSet;

/** The sentences of the public face, and under which headings its calls stand. */
final class FaceSentences {
    private static final String FACE = "The public face";
    private static final String METHOD = "\n    public ";

    private FaceSentences() {
    }

    static void all() throws IOException {
        classItself();
        constants();
        constructor();
        for (String method : Doc.face()) {
            method(method);
        }
        nothingElse();
        headings(Files.readString(Path.of("src/main/java/ArmpitLine.java")));
    }

    private static void classItself() {
        Due.sentence(FACE, "public final class ArmpitLine {");
        Due.holds("public and final", ArmpitLine.class.getModifiers() == (Modifier.PUBLIC | Modifier.FINAL));
        Due.holds("without a package", ArmpitLine.class.getPackageName().isEmpty());
        Due.holds("of nothing else", ArmpitLine.class.getSuperclass() == Object.class && ArmpitLine.class.getInterfaces().length == 0);
    }

    private static void constants() {
        Due.sentence(FACE, "public static final int NONE = -1, BAD = -2, STATE = -3, FULL = -4;");
        constant("NONE", int.class, -1);
        constant("BAD", int.class, -2);
        constant("STATE", int.class, -3);
        constant("FULL", int.class, -4);
        Due.sentence(FACE, "public static final long NO = -4611686018427387904L;");
        constant("NO", long.class, -4611686018427387904L);
    }

    private static void constant(String name, Class<?> type, long v) {
        try {
            Field f = ArmpitLine.class.getField(name);
            Due.holds(name + " is static and final", f.getModifiers() == (Modifier.PUBLIC | Modifier.STATIC | Modifier.FINAL));
            Due.holds(name + " is of its type", f.getType() == type);
            Due.is(name, f.getLong(null), v);
        } catch (ReflectiveOperationException e) {
            Due.holds("there is a " + name, false);
        }
    }

    private static void constructor() {
        Due.sentence(FACE, "public ArmpitLine();");
        Constructor<?>[] all = ArmpitLine.class.getDeclaredConstructors();
        Due.is("constructors", all.length, 1);
        Due.is("parameters", all[0].getParameterCount(), 0);
        Due.holds("public", Modifier.isPublic(all[0].getModifiers()));
    }

    /** Told as "int part(int man, int part, int off)". */
    private static void method(String told) {
        Due.sentence(FACE, "public " + told + ";");
        int found = 0;
        for (Method m : ArmpitLine.class.getDeclaredMethods()) {
            if (m.getModifiers() == Modifier.PUBLIC && signature(m).equals(told.replaceAll("(int|long) \\w+(?=[,)])", "$1"))) {
                found++;
            }
        }
        Due.is("such public methods of the object", found, 1);
    }

    private static String signature(Method m) {
        List<String> types = new ArrayList<>();
        for (Class<?> t : m.getParameterTypes()) {
            types.add(t.getName());
        }
        return m.getReturnType() + " " + m.getName() + "(" + String.join(", ", types) + ")";
    }

    private static void nothingElse() {
        Due.sentence(FACE, "}");
        Due.is("methods that are not private", seen(ArmpitLine.class.getDeclaredMethods()).size(), 32);
        Due.is("of these told in the document", Doc.face().size(), 32);
        Set<String> fields = seen(ArmpitLine.class.getDeclaredFields());
        Due.holds("fields that are not private: " + fields, fields.equals(Set.of("NONE", "BAD", "STATE", "FULL", "NO")));
    }

    private static Set<String> seen(Member[] members) {
        Set<String> names = new TreeSet<>();
        for (Member m : members) {
            if (!Modifier.isPrivate(m.getModifiers())) {
                names.add(m.getName());
            }
        }
        return names;
    }

    /** The source has the calls in the interface's order, and its headings ahead of them. */
    private static void headings(String source) {
        heading(source, "Ahead of the calls `man`, `part`, `move`, `front`, `camera`, `frame`, `sees`, `crosser`"
                + " the interface says: ---- men, cameras, crossers.");
        heading(source, "Ahead of the calls `feed`, `text`, `force`, `says`, `width` the interface says: ---- texts.");
        heading(source, "Ahead of the calls `call`, `told`, `offside` the interface says: ---- calls.");
        heading(source, "Ahead of the calls `wrong`, `best`, `match`, `table`, `season`, `stand` the interface says:"
                + " ---- widths, matches.");
        heading(source, "Ahead of the calls `shown`, `split`, `image`, `back`, `count` the interface says: ---- cases.");
        heading(source, "Ahead of the calls `sheet`, `cell`, `copy`, `men`, `taken` the interface says: ---- the host.");
    }

    private static void heading(String source, String words) {
        Due.sentence("Terms 4", words);
        String said = words.substring(words.indexOf("---- "), words.length() - 1);
        int at = source.indexOf("// " + said + "\n");
        Due.holds(said, at >= 0);
        String[] parts = words.split("`");
        for (int k = 1; k < parts.length && at >= 0; k += 2) {
            at = source.indexOf(METHOD, at + 1);
            String next = at < 0 ? "" : source.substring(at, source.indexOf('(', at));
            Due.holds(parts[k] + " comes next", next.endsWith(" " + parts[k]));
        }
    }
}
