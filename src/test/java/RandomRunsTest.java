import java.lang.reflect.InvocationTargetException;
import java.lang.reflect.Method;
import java.lang.reflect.Modifier;
import java.util.ArrayDeque;
import java.util.ArrayList;
import java.util.Comparator;
import java.util.Deque;
import java.util.HashMap;
import java.util.List;
import java.util.Map;
import java.util.Random;

/** Random runs of calls, the program against the model; always the same ones, unless a first seed and a count are told. */
public final class RandomRunsTest {
    /** Of each method the ranges of its arguments; mostly they are kept to. */
    private static final Map<String, int[]> RANGES = new HashMap<>();
    private static final List<String> OFTEN = List.of("hour", "lot", "goAll", "change", "remake", "points", "learnt",
        "on", "when", "write", "match", "act", "shelf", "taken", "quarrel", "seat", "row", "judge", "item", "span");
    private static final int[] EXTREMES = {Integer.MIN_VALUE, Integer.MIN_VALUE + 1, -1000, -2, -1, 0, 1, 2, 40, 41,
        255, 256, 1000, Integer.MAX_VALUE - 1, Integer.MAX_VALUE};

    static {
        range("shadow", 1, 5, 1, 9, 1, 9);
        range("shadowOf", 0, 5, 0, 6);
        range("change", 0, 5, 1, 2, 1, 9);
        range("remake", 0, 5, 1, 5);
        range("lesson", 1, 20, -1, 6, 0, 9, 4, 15, 1, 6);
        range("lessonOf", 0, 7, 0, 5);
        range("points", 0, 5, 0, 7);
        range("dusk", 1, 16);
        range("state", 0, 3);
        range("learnt", 0, 5);
        range("on", 0, 16);
        range("when", 0, 5, 0, 7);
        range("crowd", 0, 7);
        range("quickFor", 0, 5);
        range("letGoBy", 0, 5);
        range("roomFor", 0, 7);
        range("quarrel", 0, 5, 0, 5, 0, 1);
        range("quarrels", 0, 5);
        range("seat", 0, 5);
        range("seatings", 1, 4);
        range("match", 0, 3, 0, 6, 0, 99);
        range("best", 0, 4);
        range("ith", 0, 4, 0, 3);
        range("ways", 0, 4);
        range("taught", 0, 4, 0, 255);
        range("bars", 0, 4, 0, 255);
        range("game", 1, 4);
        range("play", 1, 4);
        range("report", 1, 5, 1, 9, 0, 60, 40, 300);
        range("span", 0, 2);
        range("seed", -999, 999);
        range("often", 1, 40, 0, 200);
        range("prove", 0, 4);
        range("row", 0, 3, 0, 2);
        range("alterRow", 0, 3, 0, 2, 0, 40);
        range("sheet", 0, 3, -1, 4, 0, 40);
        range("write", 0, 3, 0, 20, -1, 60);
        range("item", 0, 3, 0, 4, 0, 20);
        range("goAll", 0, 3, 0, 20, 0, 5);
        range("wouldBe", 0, 3, 0, 20, 0, 5);
        range("shelf", 0, 3, 0, 2, 0, 5);
        range("taken", 0, 3, 0, 14);
        range("act", 0, 3, 0, 3, -99, 99);
        range("trace", 0, 6);
        range("many", 0, 7);
    }

    private final Random random;
    private final long run;
    /** There are no SHADOWS for long, as calls have edges there that a full school never shows. */
    private final boolean startsEmpty;
    private final ShadowSchool program = new ShadowSchool();
    private final Model model = new Model();
    private final List<String> log = new ArrayList<>();
    private final Deque<Object[]> feeds = new ArrayDeque<>();

    private RandomRunsTest(long run) {
        this.run = run;
        this.startsEmpty = run % 5 == 0;
        this.random = new Random(run);
    }

    private static void range(String name, int... bounds) {
        RANGES.put(name, bounds);
    }

    public static void main(String[] args) throws Exception {
        long first = args.length > 0 ? Long.parseLong(args[0]) : 1;
        long count = args.length > 1 ? Long.parseLong(args[1]) : 150;
        List<Method> methods = new ArrayList<>();
        for (Method m : ShadowSchool.class.getDeclaredMethods()) {
            if (Modifier.isPublic(m.getModifiers())) {
                methods.add(m);
                if (OFTEN.contains(m.getName())) {
                    methods.add(m);
                    methods.add(m);
                }
            }
        }
        methods.sort(Comparator.comparing(Method::getName));
        for (long k = first; k < first + count; k++) {
            if (!new RandomRunsTest(k).goes(methods)) {
                System.exit(1);
            }
        }
        System.out.println(count + " random runs: all answers are as the model's");
    }

    private boolean goes(List<Method> methods) throws Exception {
        int calls = 0;
        while (calls < 512) {
            boolean opens = calls < 14 && !startsEmpty;
            Method m = opens ? opening(methods) : methods.get(random.nextInt(methods.size()));
            if (!feeds.isEmpty()) {
                m = named(methods, feeds.peek().length == 2 ? "feed" : "rules");
            } else if (m.getName().equals("feed") || m.getName().equals("rules")) {
                prepareText();
                continue;
            } else if (m.getName().equals("anew") || m.getName().equals("again") || m.getName().equals("forget")) {
                if (random.nextInt(3) != 0) {
                    continue;
                }
            } else if (m.getName().equals("shadow") && startsEmpty && calls < 300) {
                continue;
            }
            calls++;
            if (!sameAnswer(m, feeds.isEmpty() ? argumentsFor(m) : feeds.poll())) {
                return false;
            }
        }
        return true;
    }

    private Method opening(List<Method> methods) {
        String name = random.nextInt(10) == 0 ? "hour" : random.nextBoolean() ? "shadow" : "lesson";
        return named(methods, name);
    }

    private static Method named(List<Method> methods, String name) {
        return methods.stream().filter(m -> m.getName().equals(name)).findFirst().get();
    }

    private Object[] argumentsFor(Method m) {
        int[] bounds = RANGES.get(m.getName());
        Object[] args = new Object[m.getParameterCount()];
        boolean strict = random.nextInt(4) != 0;
        for (int k = 0; k < args.length; k++) {
            args[k] = number(bounds[2 * k], bounds[2 * k + 1], strict);
        }
        return args;
    }

    private int number(int least, int most, boolean strict) {
        int dice = strict ? 9 : random.nextInt(10);
        if (dice == 0) {
            return EXTREMES[random.nextInt(EXTREMES.length)];
        }
        if (dice == 1) {
            return random.nextBoolean() ? least - 1 : most + 1;
        }
        if (dice == 2) {
            return random.nextInt();
        }
        return least + random.nextInt(most - least + 1);
    }

    /** A text in parts, as feed() takes them, and rules() behind it. */
    private void prepareText() {
        byte[] text = spoilt(text()).getBytes(java.nio.charset.StandardCharsets.ISO_8859_1);
        for (int at = 0; at < text.length; ) {
            int n = Math.min(text.length - at, random.nextInt(5) == 0 ? 1 + random.nextInt(8) : 8);
            long eight = random.nextLong();
            for (int k = n - 1; k >= 0; k--) {
                eight = eight << 8 | text[at + k] & 255;
            }
            feeds.add(new Object[] {eight, n});
            at += n;
        }
        if (random.nextInt(20) == 0) {
            feeds.add(new Object[] {random.nextLong(), number(1, 8, false)});
        }
        feeds.add(new Object[0]);
    }

    private String text() {
        StringBuilder b = new StringBuilder();
        int rules = random.nextInt(6) == 0 ? 6 + random.nextInt(4) : random.nextInt(4);
        for (int k = 0; k < rules; k++) {
            b.append(blanks()).append(oneOf("shadow", "joined", "gifted", "coloured", "slow", "borrowed"));
            if (rules < 6 && random.nextInt(3) != 0) {
                b.append(" if ").append(cond(random.nextInt(12) == 0 ? 4 : 3, 3));
            }
            b.append(' ').append(oneOf("last", "easy", "play")).append(blanks()).append(';');
        }
        return b.append(blanks()).toString();
    }

    private String cond(int open, int size) {
        StringBuilder b = new StringBuilder(one(open, size));
        for (int k = random.nextInt(size); k > 0; k--) {
            b.append(oneOf(" and ", " or ")).append(one(open, size));
        }
        return b.toString();
    }

    private String one(int open, int size) {
        String not = "not ".repeat(random.nextInt(4) == 0 ? 1 + random.nextInt(2) : 0);
        if (open > 0 && random.nextInt(3) == 0) {
            return not + "(" + blanks() + cond(open - 1, Math.max(1, size - 1)) + ")";
        }
        return not + value() + blanks() + oneOf("<", "=", ">") + blanks() + value();
    }

    private String value() {
        if (random.nextInt(3) == 0) {
            return random.nextInt(30) == 0 ? "1000" + random.nextInt(9) : "" + random.nextInt(12);
        }
        return oneOf("hour", "learnt", "quick", "tall", "number");
    }

    private String blanks() {
        return " ".repeat(random.nextInt(8) == 0 ? 1 + random.nextInt(2) : 0);
    }

    private String oneOf(String... all) {
        return all[random.nextInt(all.length)];
    }

    private String spoilt(String text) {
        StringBuilder b = new StringBuilder(text);
        if (b.length() > 0 && random.nextInt(3) == 0) {
            int at = random.nextInt(b.length());
            switch (random.nextInt(5)) {
                case 0 -> b.setLength(at);
                case 1 -> b.deleteCharAt(at);
                case 2 -> b.setCharAt(at, (char) random.nextInt(256));
                case 3 -> b.insert(at, oneOf("(", ")", ";", "not ", "if ", "1", "a", " ", "<", "and ", "shadow "));
                default -> b.replace(at, Math.min(b.length(), at + 3), oneOf("", " or ", "hour", "99999"));
            }
        }
        return b.toString();
    }

    private boolean sameAnswer(Method m, Object[] args) throws Exception {
        StringBuilder call = new StringBuilder(m.getName()).append('(');
        for (int k = 0; k < args.length; k++) {
            call.append(k > 0 ? ", " : "").append(args[k]);
        }
        call.append(')');
        Method other = Model.class.getDeclaredMethod(m.getName(), m.getParameterTypes());
        int want = (int) other.invoke(model, args);
        Object got;
        try {
            got = m.invoke(program, args);
        } catch (InvocationTargetException e) {
            got = e.getCause();
        }
        log.add(call + " = " + got);
        if (got.equals(want)) {
            return true;
        }
        log.forEach(System.out::println);
        System.out.println("random run " + run + ": " + call + " answered " + got + ", due is " + want);
        return false;
    }
}
