import java.lang.reflect.Constructor;
import java.lang.reflect.Field;
import java.lang.reflect.Method;
import java.lang.reflect.Modifier;
import java.util.Set;
import java.util.TreeSet;

/** The class has the members of the document's "public face" with their values, and no others. */
public final class PublicFaceTest {
    private static final Set<String> FACE = Set.of(
            "T_FUNC=1", "T_END=2", "T_TRY=3", "T_CATCH=4", "T_FINALLY=5", "T_ADD=6", "T_MARK=7", "T_THROW=8",
            "T_THROWNZ=9", "T_RETHROW=10", "T_CALL=11", "STATUS_NONE=0", "STATUS_NORMAL=1", "STATUS_UNCAUGHT=2",
            "COMPILE_OK=-1", "CATCH_ANY=0", "MAX_TYPE=15", "MAX_FUNCTIONS=4",
            "public TwoPhaseUnwind(int,int)",
            "public void TwoPhaseUnwind.reset()",
            "public boolean TwoPhaseUnwind.addToken(int,int)",
            "public int TwoPhaseUnwind.compile()",
            "public boolean TwoPhaseUnwind.run(int)",
            "public int TwoPhaseUnwind.getTokenCount()",
            "public int TwoPhaseUnwind.getTokenKind(int)",
            "public int TwoPhaseUnwind.getTokenArg(int)",
            "public boolean TwoPhaseUnwind.isCompiled()",
            "public int TwoPhaseUnwind.getFunctionCount()",
            "public int TwoPhaseUnwind.getStatus()",
            "public int TwoPhaseUnwind.getResult()",
            "public int TwoPhaseUnwind.getUncaughtType()",
            "public int TwoPhaseUnwind.getTraceLength()",
            "public int TwoPhaseUnwind.getTrace(int)",
            "public int TwoPhaseUnwind.getCatchRuns()",
            "public int TwoPhaseUnwind.getFinallyRuns()");

    private static String describe(Field field) throws ReflectiveOperationException {
        boolean constant = field.toGenericString().startsWith("public static final int ");
        return constant ? field.getName() + "=" + field.getInt(null) : field.toString();
    }

    private static Set<String> visibleMembers(Class<?> c) throws ReflectiveOperationException {
        Set<String> found = new TreeSet<>();
        for (Field field : c.getDeclaredFields()) {
            if (!Modifier.isPrivate(field.getModifiers())) {
                found.add(describe(field));
            }
        }
        for (Constructor<?> constructor : c.getDeclaredConstructors()) {
            found.add(constructor.toString());
        }
        for (Method method : c.getDeclaredMethods()) {
            if (!Modifier.isPrivate(method.getModifiers())) {
                found.add(method.toString());
            }
        }
        return found;
    }

    public static void main(String[] args) throws ReflectiveOperationException {
        Class<?> c = TwoPhaseUnwind.class;
        Due.equal("class modifiers", c.getModifiers(), Modifier.PUBLIC | Modifier.FINAL);
        Due.equal("nested classes", c.getDeclaredClasses().length, 0);
        Due.isTrue("superclass is Object", c.getSuperclass() == Object.class);
        Set<String> found = visibleMembers(c);
        for (String member : FACE) {
            Due.isTrue("has " + member, found.contains(member));
        }
        for (String member : found) {
            Due.isTrue("document has " + member, FACE.contains(member));
        }
        Due.finish();
    }
}
