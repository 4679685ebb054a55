import java.lang.reflect.InvocationTargetException;
import java.lang.reflect.Method;
import java.util.Arrays;
import java.util.Comparator;

/** Runs the tests of single sentences; fails also where a sentence of the document has none. */
public final class SentencesTest {
    private static final Class<?>[] PARTS = {TermsSentences.class, ShadowsSentences.class, HoursSentences.class,
        RulesSentences.class, SeatsSentences.class, PlansSentences.class, MomentsSentences.class,
        HostSentences.class, ActsSentences.class};

    public static void main(String[] args) throws IllegalAccessException, InvocationTargetException {
        for (Class<?> part : PARTS) {
            Method[] methods = part.getDeclaredMethods();
            Arrays.sort(methods, Comparator.comparing(Method::getName));
            for (Method m : methods) {
                if (!m.isSynthetic() && m.getParameterCount() == 0 && m.getReturnType() == void.class) {
                    m.invoke(null);
                }
            }
        }
        if (!Sentences.end()) {
            System.exit(1);
        }
    }
}
