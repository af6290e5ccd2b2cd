import java.io.IOException;
import java.nio.file.Files;
import java.nio.file.Path;
import java.util.ArrayList;
import java.util.LinkedHashMap;
import java.util.List;
import java.util.Map;
import java.util.regex.Matcher;
import java.util.regex.Pattern;

/** The words of ../shared/DOC.md, heading by heading, and which of them a test has named. */
final class Doc {
    private static final Path FILE = Path.of("../shared/DOC.md");
    private static final Pattern HEADING = Pattern.compile("(?m)^## (.*)$");
    private static final Pattern TERMS = Pattern.compile("==== (\\d) ");
    private static final Pattern METHOD = Pattern.compile("public ((?:int|long) \\w+\\([^)]*\\));");
    private static final Map<String, String> WORDS = new LinkedHashMap<>();
    private static final Map<String, boolean[]> NAMED = new LinkedHashMap<>();

    private Doc() {
    }

    /** "Terms 1" to "Terms 4", "Promise 1" to "Promise 33" and the headings that have no number. */
    private static void read() {
        if (!WORDS.isEmpty()) {
            return;
        }
        try {
            Map<String, String> parts = cut(HEADING, Files.readString(FILE));
            for (Map.Entry<String, String> part : parts.entrySet()) {
                if (part.getKey().equals("Terms")) {
                    cut(TERMS, part.getValue()).forEach((n, words) -> put("Terms " + n, words));
                } else {
                    put(part.getKey().replaceAll(":.*", ""), part.getValue());
                }
            }
        } catch (IOException e) {
            throw new IllegalStateException("no document at " + FILE.toAbsolutePath(), e);
        }
    }

    private static Map<String, String> cut(Pattern start, String text) {
        Map<String, String> parts = new LinkedHashMap<>();
        Matcher m = start.matcher(text);
        String name = null;
        int from = 0;
        while (m.find()) {
            if (name != null) {
                parts.put(name, text.substring(from, m.start()));
            }
            name = m.group(1);
            from = m.end();
        }
        if (name != null) {
            parts.put(name, text.substring(from));
        }
        return parts;
    }

    /** Without the frames of blocks and without the face of a call ahead of its words. */
    private static void put(String where, String text) {
        String words = text.replaceAll("```(text|java)?", " ");
        words = words.replaceAll("\\s+", " ").trim().replaceAll("^`[^`]*`: ", "");
        WORDS.put(where, words);
        NAMED.put(where, new boolean[words.length()]);
    }

    /** Whether the words stand there in the document; they are named from now on. */
    static boolean name(String where, String words) {
        read();
        String all = WORDS.getOrDefault(where, "");
        int at = all.indexOf(words);
        for (int i = at; at >= 0 && i < at + words.length(); i++) {
            NAMED.get(where)[i] = true;
        }
        return at >= 0 && !words.isEmpty();
    }

    /** All words under a heading, each run of blanks and line ends as one blank. */
    static String words(String where) {
        read();
        return WORDS.getOrDefault(where, "");
    }

    /** The methods of the public face, as "int text()", in their order: of the first one tells Promise 2. */
    static List<String> face() {
        List<String> methods = new ArrayList<>();
        Matcher m = METHOD.matcher(words("The public face"));
        while (m.find()) {
            methods.add(m.group(1));
        }
        return methods;
    }

    /** What no test has named yet of the face, the terms and the promises. */
    static List<String> unnamed() {
        read();
        List<String> rest = new ArrayList<>();
        for (String where : WORDS.keySet()) {
            if (where.matches("The public face|(Terms|Promise) \\d+")) {
                addUnnamed(where, rest);
            }
        }
        return rest;
    }

    private static void addUnnamed(String where, List<String> rest) {
        String words = WORDS.get(where);
        boolean[] named = NAMED.get(where);
        StringBuilder run = new StringBuilder();
        for (int i = 0; i <= words.length(); i++) {
            if (i < words.length() && !named[i]) {
                run.append(words.charAt(i));
            } else {
                if (run.toString().matches(".*[A-Za-z0-9].*")) {
                    rest.add(where + ": \"" + run + "\"");
                }
                run.setLength(0);
            }
        }
    }

    static int promises() {
        read();
        return (int) WORDS.keySet().stream().filter(where -> where.startsWith("Promise ")).count();
    }
}
