import java.io.IOException;
import java.lang.reflect.Field;
import java.lang.reflect.Method;
import java.lang.reflect.Modifier;
import java.nio.charset.StandardCharsets;
import java.nio.file.Files;
import java.nio.file.Path;
import java.util.ArrayList;
import java.util.Arrays;
import java.util.HashSet;
import java.util.LinkedHashMap;
import java.util.List;
import java.util.Map;
import java.util.Set;
import java.util.regex.Pattern;

/** LANGUAGE.md, rule by rule, as far as the source and the compiled class show it. */
public final class LanguageTest {
    private static final String BOOK = "ShufflingBook";
    private static final Path SOURCE = Path.of("src/main/java/ShufflingBook.java");
    private static final String[] RULED_OUT = {
        "throw", "throws", "try", "catch", "finally", "synchronized", "assert", "import", "package", "protected",
        "lambda", "Object", "equals", "hashCode", "toString", "System\\.out", "\\w+Exact", "float", "double"
    };
    /** Rule 4, of which the class needs the less the better. */
    private static final Pattern LIBRARY = Pattern.compile("java/lang/Object\\.<init>\\(\\)V"
        + "|java/lang/(Math|Integer|Long)\\.(compare|max|min|abs|bitCount|floorDiv|floorMod)\\([IJ]+\\)[IJ]"
        + "|java/lang/System\\.arraycopy.*|java/util/Arrays\\.(copyOf|copyOfRange|fill)\\(.*"
        + "|java/lang/String\\.(length|charAt|isEmpty|equals|indexOf|substring|toCharArray|<init>)\\(.*"
        + "|java/lang/StringBuilder\\.(<init>|append|charAt|setCharAt|setLength|deleteCharAt|reverse|length|toString)"
        + "\\(.*|java/util/(ArrayList|List)\\.(<init>|add|get|set|remove|size|isEmpty|clear)\\(.*");
    private static final Pattern FIELD_TYPE = Pattern.compile("(int|long|short|byte|char|boolean)(\\[\\]){0,2}"
        + "|ShufflingBook(\\$\\w+)?(\\[\\])?|java\\.lang\\.(String|StringBuilder)|java\\.util\\.(Array)?List");
    private static final int MOST_CLASSES = 12, MOST_FIELDS = 20, MOST_PARAMETERS = 7, MOST_LINES = 60, DEEPEST = 8;

    private static List<Class<?>> classes() {
        List<Class<?>> all = new ArrayList<>();
        all.add(ShufflingBook.class);
        all.addAll(Arrays.asList(ShufflingBook.class.getDeclaredClasses()));
        return all;
    }

    private static void none(String what, boolean found) {
        Bench.due(what, found ? 1 : 0, 0);
    }

    private static void atMost(String what, int got, int most) {
        none(what + ": " + got + ", more than " + most, got > most);
    }

    private static String code() {
        return source().replaceAll("(?s)/\\*.*?\\*/", " ").replaceAll("//[^\n]*", " ");
    }

    private static String source() {
        try {
            return Files.readString(SOURCE, StandardCharsets.ISO_8859_1);
        } catch (IOException e) {
            throw new IllegalStateException(e);
        }
    }

    private static List<Compiled> compiled() {
        List<Compiled> all = new ArrayList<>();
        for (Class<?> c : classes()) {
            try {
                all.add(new Compiled(c.getName()));
            } catch (IOException e) {
                throw new IllegalStateException(e);
            }
        }
        return all;
    }

    // ---- rules

    private static void wordsThatAreRuledOut() {
        String code = code();
        for (String word : RULED_OUT) {
            none("'" + word + "' stands in the code",
                Pattern.compile("(?<!\\w)" + word + "(?!\\w)").matcher(code).find());
        }
        none("'->' or '::' stands in the code", code.contains("->") || code.contains("::"));
        none("a sign above 126 in the source", source().chars().anyMatch(sign -> sign > 126));
        for (Compiled c : compiled()) {
            for (String found : c.ruledOut) {
                none(found, true);
            }
        }
    }

    private static void classesInside() {
        atMost("classes", classes().size(), MOST_CLASSES);
        for (Class<?> c : classes()) {
            boolean inside = c != ShufflingBook.class;
            none(c.getName() + " is not static", inside && !Modifier.isStatic(c.getModifiers()));
            none(c.getName() + " is open", inside && (c.getModifiers() & (Modifier.PUBLIC | Modifier.PROTECTED)) != 0);
            none(c.getName() + " has classes inside", inside && c.getDeclaredClasses().length > 0);
        }
        none("an anonymous class", ShufflingBook.class.getResource(BOOK + "$1.class") != null);
    }

    private static void fields() {
        for (Class<?> c : classes()) {
            int own = 0;
            for (Field f : c.getDeclaredFields()) {
                String name = c.getName() + "." + f.getName();
                boolean fixed = Modifier.isStatic(f.getModifiers());
                own += fixed ? 0 : 1;
                none(name + " is static and not final", fixed && !Modifier.isFinal(f.getModifiers()));
                none(name + " is of a type of its own kind", !FIELD_TYPE.matcher(f.getType().getTypeName()).matches());
            }
            atMost("fields of " + c.getName(), own, MOST_FIELDS);
        }
    }

    private static void methods() {
        for (Class<?> c : classes()) {
            for (Method m : c.getDeclaredMethods()) {
                atMost("parameters of " + m, m.getParameterCount(), MOST_PARAMETERS);
            }
        }
        for (Compiled c : compiled()) {
            for (Map.Entry<String, Integer> m : c.lines.entrySet()) {
                atMost("lines of " + m.getKey(), m.getValue(), MOST_LINES);
            }
        }
        none("a static initialiser block", Pattern.compile("static\\s*\\{").matcher(code()).find());
    }

    private static void library() {
        for (Compiled c : compiled()) {
            for (Map.Entry<String, Set<String>> m : c.calls.entrySet()) {
                for (String called : m.getValue()) {
                    boolean own = called.startsWith(BOOK + ".") || called.startsWith(BOOK + "$");
                    none(m.getKey() + " calls " + called, !own && !LIBRARY.matcher(called).matches());
                }
            }
        }
    }

    private static void depth() {
        Map<String, Set<String>> calls = new LinkedHashMap<>();
        for (Compiled c : compiled()) {
            calls.putAll(c.calls);
        }
        for (String method : calls.keySet()) {
            atMost("calls deep from " + method, depth(method, calls, new HashSet<>()), DEEPEST);
        }
    }

    /** How deep the class's own calls go, this one counted; one that calls itself goes too deep. */
    private static int depth(String method, Map<String, Set<String>> calls, Set<String> open) {
        if (!open.add(method)) {
            return DEEPEST + 1;
        }
        int deepest = 0;
        for (String called : calls.get(method)) {
            if (calls.containsKey(called)) {
                deepest = Math.max(deepest, depth(called, calls, open));
            }
        }
        open.remove(method);
        return deepest + 1;
    }

    public static void main(String[] args) {
        Bench.sentence("rules 1 and 2: classes inside are static, private or package-visible; rule 11: some twelve",
            LanguageTest::classesInside);
        Bench.sentence("rules 3, 5 and 11: types of fields, static fields are final, some twenty fields a class",
            LanguageTest::fields);
        Bench.sentence("rule 4: the library: only what stands here", LanguageTest::library);
        Bench.sentence("rules 2, 4, 6 and 10: what is ruled out", LanguageTest::wordsThatAreRuledOut);
        Bench.sentence("rules 5 and 11: no static block, seven parameters, some sixty lines", LanguageTest::methods);
        Bench.sentence("rules 8 and 11: calls that are no recursion go at most eight deep", LanguageTest::depth);
        Bench.end();
    }
}
