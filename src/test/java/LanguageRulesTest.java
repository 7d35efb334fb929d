import java.io.IOException;
import java.lang.reflect.Field;
import java.lang.reflect.Method;
import java.lang.reflect.Modifier;
import java.nio.file.Files;
import java.nio.file.Path;
import java.util.HashSet;
import java.util.Set;
import java.util.regex.Matcher;
import java.util.regex.Pattern;

/** The rules of LANGUAGE.md that can be read off the source text or the class. Runs in the project's root. */
public final class LanguageRulesTest {
    private static final String FORBIDDEN = "package|import|float|double|String|Math|Integer|Long|System|Arrays|Object"
            + "|throw|throws|try|catch|finally|synchronized|assert|instanceof|null|var|record|enum|interface|yield"
            + "|hashCode|equals|toString|getClass|clone";

    private static int count(String text, String pattern) {
        Matcher matcher = Pattern.compile(pattern).matcher(text);
        int n = 0;
        while (matcher.find()) {
            n++;
        }
        return n;
    }

    private static void words(String code) {
        Matcher matcher = Pattern.compile("\\b(" + FORBIDDEN + ")\\b").matcher(code);
        while (matcher.find()) {
            Due.isTrue("rules 2, 3 and 6: no " + matcher.group(), false);
        }
        Due.equal("rule 6: lambdas, method references and strings", count(code, "->|::|\""), 0);
        Due.equal("rule 5: static initialisers", count(code, "static\\s*\\{"), 0);
    }

    private static void arrays(String code) {
        int made = count(code, "\\bnew\\b");
        int fields = count(code, "private final int\\[\\] \\w+ = new int\\[(MAX_TOKENS|MAX_TRACE|MAX_FUNCTIONS)\\];");
        Due.equal("rule 4: arrays made outside of fields' initialisers", made - fields, 0);
        Due.equal("rule 2: array types beside those fields", count(code, "\\[\\s*\\]") - fields, 0);
    }

    private static void members(Class<?> c) {
        int fields = 0;
        for (Field field : c.getDeclaredFields()) {
            if (!Modifier.isStatic(field.getModifiers())) {
                fields++;
            } else {
                Due.isTrue("rule 5: " + field, field.getType() == int.class || field.getType() == long.class);
            }
        }
        Due.isTrue("rule 10: at most forty fields, has " + fields, fields <= 40);
        Set<String> names = new HashSet<>();
        for (Method method : c.getDeclaredMethods()) {
            Due.isTrue("rule 1: one method named " + method.getName(), names.add(method.getName()));
            Due.isTrue("rule 10: parameters of " + method, method.getParameterCount() <= 7);
        }
    }

    public static void main(String[] args) throws IOException {
        String source = Files.readString(Path.of("src/main/java/TwoPhaseUnwind.java"));
        String code = source.replaceAll("(?s)/\\*.*?\\*/", " ").replaceAll("//[^\\n]*", " ");
        words(code);
        arrays(code);
        members(TwoPhaseUnwind.class);
        Due.finish();
    }
}
