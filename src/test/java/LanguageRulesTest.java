import java.io.IOException;
import java.lang.reflect.Field;
import java.lang.reflect.Method;
import java.lang.reflect.Modifier;
import java.nio.file.Files;
import java.nio.file.Path;
import java.util.HashSet;
import java.util.LinkedHashMap;
import java.util.Map;
import java.util.Set;
import java.util.TreeSet;
import java.util.regex.Matcher;
import java.util.regex.Pattern;

/** The rules of LANGUAGE.md that can be read off the source text or the class. Runs in the project's root. */
public final class LanguageRulesTest {
    private static final String FORBIDDEN = "package|import|float|double|String|Math|Integer|Long|System|Arrays|Object"
            + "|throw|throws|try|catch|finally|synchronized|assert|instanceof|null|var|record|enum|interface|yield"
            + "|hashCode|equals|toString|getClass|clone";

    private static int count(String text, String pattern) {
        Matcher matcher = Pattern.compile(pattern).matcher(text);
        int n = 0;
        while (matcher.find()) {
            n++;
        }
        return n;
    }

    private static void words(String code) {
        Matcher matcher = Pattern.compile("\\b(" + FORBIDDEN + ")\\b").matcher(code);
        while (matcher.find()) {
            Due.isTrue("rules 2, 3 and 6: no " + matcher.group(), false);
        }
        Due.equal("rule 6: lambdas, method references and strings", count(code, "->|::|\""), 0);
        Due.equal("rule 5: static initialisers", count(code, "static\\s*\\{"), 0);
    }

    private static void arrays(String code) {
        int made = count(code, "\\bnew\\b");
        int fields = count(code, "private final int\\[\\] \\w+ = new int\\[(MAX_TOKENS|MAX_TRACE|MAX_FUNCTIONS)\\];");
        Due.equal("rule 4: arrays made outside of fields' initialisers", made - fields, 0);
        Due.equal("rule 2: array types beside those fields", count(code, "\\[\\s*\\]") - fields, 0);
    }

    /** An index that is itself read from an array can't have been looked at. */
    private static void indexes(String code) {
        Due.equal("rule 7: array elements as indexes", count(code, "\\[[^\\]]*\\["), 0);
        Due.equal("rule 7: divisions", count(code, "[/%]"), 0);
        Due.equal("rule 8: loops that are no for with a bound", count(code, "\\b(while|do)\\b|for \\([^;]*;\\s*;"), 0);
    }

    /** The source text of each method by its name, as the members stand at the class's first indentation. */
    private static Map<String, String> methods(String code) {
        Map<String, String> bodies = new LinkedHashMap<>();
        Matcher matcher = Pattern.compile("(?ms)^    \\w[^;={]*?(\\w+)\\([^)]*\\) \\{$(.*?)^    \\}$").matcher(code);
        while (matcher.find()) {
            bodies.put(matcher.group(1), matcher.group(2));
        }
        return bodies;
    }

    private static Set<String> callsIn(String body, Set<String> names) {
        Set<String> called = new TreeSet<>();
        Matcher matcher = Pattern.compile("\\b(\\w+)\\(").matcher(body);
        while (matcher.find()) {
            if (names.contains(matcher.group(1))) {
                called.add(matcher.group(1));
            }
        }
        return called;
    }

    /** How many calls deep the method goes, itself counted; far more than are allowed if it comes back to itself. */
    private static int depth(String name, Map<String, String> bodies, int above) {
        if (above > bodies.size()) {
            return above;
        }
        int deepest = above + 1;
        for (String called : callsIn(bodies.get(name), bodies.keySet())) {
            deepest = Math.max(deepest, depth(called, bodies, above + 1));
        }
        return deepest;
    }

    private static void calls(String code, Class<?> c) {
        Map<String, String> bodies = methods(code);
        // One more than the methods: the constructor.
        Due.equal("methods found in the source", bodies.size(), c.getDeclaredMethods().length + 1);
        for (String name : bodies.keySet()) {
            int deep = depth(name, bodies, 0);
            Due.isTrue("rules 8 and 10: calls of " + name + " go " + deep + " deep, at most six", deep <= 6);
            int lines = count(bodies.get(name), "\n");
            Due.isTrue("rule 10: " + name + " has " + lines + " lines, at most sixty", lines <= 60);
            Matcher call = Pattern.compile("\\w\\((?=([^;{]*))").matcher(bodies.get(name));
            while (call.find()) {
                String arguments = arguments(call.group(1));
                Due.isTrue("rule 10: a call in the arguments " + arguments,
                        callsIn(arguments, bodies.keySet()).isEmpty());
            }
        }
    }

    /** The text up to the bracket that closes the one before it. */
    private static String arguments(String text) {
        int open = 1;
        for (int i = 0; i < text.length(); i++) {
            open += text.charAt(i) == '(' ? 1 : text.charAt(i) == ')' ? -1 : 0;
            if (open == 0) {
                return text.substring(0, i);
            }
        }
        return text;
    }

    private static void members(Class<?> c) {
        int fields = 0;
        for (Field field : c.getDeclaredFields()) {
            if (!Modifier.isStatic(field.getModifiers())) {
                fields++;
            } else {
                Due.isTrue("rule 5: " + field, field.getType() == int.class || field.getType() == long.class);
            }
        }
        Due.isTrue("rule 10: at most forty fields, has " + fields, fields <= 40);
        Set<String> names = new HashSet<>();
        for (Method method : c.getDeclaredMethods()) {
            Due.isTrue("rule 1: one method named " + method.getName(), names.add(method.getName()));
            Due.isTrue("rule 10: parameters of " + method, method.getParameterCount() <= 7);
        }
    }

    public static void main(String[] args) throws IOException {
        String source = Files.readString(Path.of("src/main/java/TwoPhaseUnwind.java"));
        String code = source.replaceAll("(?s)/\\*.*?\\*/", " ").replaceAll("//[^\\n]*", " ");
        words(code);
        arrays(code);
        indexes(code);
        calls(code, TwoPhaseUnwind.class);
        members(TwoPhaseUnwind.class);
        Due.finish();
    }
}
