import java.io.IOException;
import java.lang.reflect.Constructor;
import java.lang.reflect.Field;
import java.lang.reflect.Member;
import java.lang.reflect.Method;
import java.lang.reflect.Modifier;
import java.nio.file.Files;
import java.nio.file.Path;
import java.util.List;
import java.util.Set;
import java.util.TreeSet;
import java.util.regex.Matcher;
import java.util.regex.Pattern;

/**
 * The face is the document's, and the file keeps to those rules of LANGUAGE.md that a search can see.
 * Run from the project's folder.
 */
public final class FaceTest {
    private static final String FACE = "BAD FULL NONE STATE ShadowSchool() shadow(int,int,int) shadowOf(int,int) "
        + "change(int,int,int) remake(int,int) lesson(int,int,int,int,int) lessonOf(int,int) points(int,int) dusk(int) "
        + "anew() state(int) feed(long,int) rules() hour() learnt(int) on(int) when(int,int) letGo() crowd(int) "
        + "quickFor(int) letGoBy(int) roomFor(int) quarrel(int,int,int) quarrels(int) rooms() seat(int) seatings(int) "
        + "match(int,int,int) best(int) ith(int,int) ways(int) taught(int,int) bars(int,int) game(int) play(int) "
        + "report(int,int,int,int) forget() span(int) liar() seed(int) lot() often(int,int) prove(int) row(int,int) "
        + "alterRow(int,int,int) judge() sheet(int,int,int) write(int,int,int) item(int,int,int) goAll(int,int,int) "
        + "wouldBe(int,int,int) shelf(int,int,int) taken(int,int) act(int,int,int) trace(int) many(int) keep() again()";
    private static final List<String> BANNED = List.of("\\bthrow\\b", "\\bthrows\\b", "\\btry\\b", "\\bcatch\\b",
        "\\bsynchronized\\b", "\\bassert\\b", "->", "::", "\\w+Exact\\b", "\\bhashCode\\b", "\\btoString\\b",
        "\\bRandom\\b", "\\bThread\\b", "currentTimeMillis", "nanoTime", "\\bgetenv\\b", "\\bvolatile\\b", "static \\{",
        "\" \\+", "\\+ \"");

    private static int wrong = 0;

    private static void due(boolean isSo, String what) {
        if (!isSo) {
            wrong++;
            System.out.println(what);
        }
    }

    public static void main(String[] args) throws IOException {
        face();
        names();
        source(Files.readString(Path.of("src/main/java/ShadowSchool.java")));
        System.out.println(wrong == 0 ? "the face is as due" : wrong + " things are not as due");
        if (wrong != 0) {
            System.exit(1);
        }
    }

    private static String parameters(Class<?>[] types) {
        StringBuilder b = new StringBuilder("(");
        for (Class<?> t : types) {
            b.append(b.length() > 1 ? "," : "").append(t.getSimpleName());
        }
        return b.append(")").toString();
    }

    private static void face() {
        Class<?> c = ShadowSchool.class;
        due(c.getModifiers() == (Modifier.PUBLIC | Modifier.FINAL), "the class is not public and final alone");
        Set<String> has = new TreeSet<>();
        for (Field f : c.getDeclaredFields()) {
            collect(has, f, f.getName());
            boolean isStatic = Modifier.isStatic(f.getModifiers());
            due(!isStatic || Modifier.isFinal(f.getModifiers()), f + " is static, but not final");
        }
        for (Constructor<?> k : c.getDeclaredConstructors()) {
            collect(has, k, "ShadowSchool" + parameters(k.getParameterTypes()));
        }
        for (Method m : c.getDeclaredMethods()) {
            collect(has, m, m.getName() + parameters(m.getParameterTypes()));
            due(!Modifier.isPublic(m.getModifiers()) || m.getReturnType() == int.class, m + " answers no int");
        }
        Set<String> want = new TreeSet<>(List.of(FACE.split(" ")));
        due(has.equals(want), "the face has " + has + ", due is " + want);
    }

    /** All that isn't private stands in the face. */
    private static void collect(Set<String> has, Member m, String name) {
        if (!Modifier.isPrivate(m.getModifiers()) && !m.isSynthetic()) {
            has.add(name);
            due(Modifier.isPublic(m.getModifiers()), m + " is neither public nor private");
        }
    }

    private static void names() {
        Set<String> open = new TreeSet<>();
        for (Method m : ShadowSchool.class.getMethods()) {
            open.add(m.getName());
        }
        Class<?>[] inside = ShadowSchool.class.getDeclaredClasses();
        due(inside.length <= 12, "there are " + inside.length + " classes inside");
        checkNames(ShadowSchool.class, open);
        for (Class<?> c : inside) {
            due(Modifier.isStatic(c.getModifiers()), c + " is not static");
            checkNames(c, open);
            int fields = 0;
            for (Field f : c.getDeclaredFields()) {
                fields += Modifier.isStatic(f.getModifiers()) ? 0 : 1;
            }
            due(fields <= 20, c + " has " + fields + " fields");
        }
    }

    private static void checkNames(Class<?> c, Set<String> open) {
        for (Method m : c.getDeclaredMethods()) {
            boolean isFace = c == ShadowSchool.class && Modifier.isPublic(m.getModifiers());
            due(isFace || !open.contains(m.getName()), m + " bears the name of a public one");
            due(m.getParameterCount() <= 7, m + " takes more than seven");
        }
    }

    private static void source(String text) {
        String code = text.replaceAll("(?s)/\\*.*?\\*/", "").replaceAll("//[^\n]*", "");
        for (String banned : BANNED) {
            Matcher m = Pattern.compile(banned).matcher(code);
            due(!m.find(), "the file has '" + banned + "'");
        }
        due(!code.contains("package "), "the file has a package");
        Matcher imports = Pattern.compile("import ([^;]+);").matcher(code);
        while (imports.find()) {
            due(imports.group(1).equals("java.util.Arrays"), "the file imports " + imports.group(1));
        }
        due(text.chars().allMatch(c -> c == '\n' || c >= 32 && c < 127), "the file has a sign beyond 32 to 126");
    }
}
