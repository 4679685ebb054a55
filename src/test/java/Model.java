import java.util.ArrayList;
import java.util.Arrays;
import java.util.List;
import java.util.TreeSet;
import java.util.function.IntPredicate;
import java.util.function.ToIntFunction;
import java.util.regex.Matcher;
import java.util.regex.Pattern;

/**
 * The document written a second time, as naively as it reads and with the whole Java library, so that
 * random runs of calls can be compared with the program's. It shares no code with it.
 */
final class Model {
    private static final int BAD = -1, FULL = -2, NONE = -3, STATE = -4;
    private static final List<String> KINDS = List.of("shadow", "joined", "gifted", "coloured", "slow", "borrowed");
    private static final List<String> DOS = List.of("last", "easy", "play");

    private static final class Pupil {
        int number, kind, quick, tall;
        int[] points = new int[8];
        TreeSet<Integer> learnt = new TreeSet<>();

        Pupil copy() {
            Pupil c = new Pupil();
            c.number = number;
            c.kind = kind;
            c.quick = quick;
            c.tall = tall;
            c.points = points.clone();
            c.learnt = new TreeSet<>(learnt);
            return c;
        }
    }

    private record Lesson(int hard, int need, int from, int to, int room) { }

    private record Report(int kind, int tall, int least, int most) { }

    private record View(Pupil p, int hour) { }

    private interface Cond {
        boolean holds(View v);
    }

    private record Rule(int kind, Cond cond, String deed) { }

    /** All that keep() keeps. */
    private static final class World {
        List<Pupil> pupils = new ArrayList<>();
        List<Lesson> lessons = new ArrayList<>();
        List<Rule> rules = new ArrayList<>();
        TreeSet<Integer> quarrels = new TreeSet<>();
        List<Report> reports = new ArrayList<>();
        int hour = 0, dusk = 12, score = 0, z = 1;
        int[] sat = new int[8];

        World copy() {
            World c = new World();
            for (Pupil p : pupils) {
                c.pupils.add(p.copy());
            }
            c.lessons = new ArrayList<>(lessons);
            c.rules = new ArrayList<>(rules);
            c.quarrels = new TreeSet<>(quarrels);
            c.reports = new ArrayList<>(reports);
            c.hour = hour;
            c.dusk = dusk;
            c.score = score;
            c.z = z;
            return c;
        }

        boolean over() {
            return hour >= dusk;
        }

        Integer choice(Pupil p, int[] sitting) {
            List<Integer> open = new ArrayList<>();
            for (int l = 0; l < lessons.size(); l++) {
                Lesson t = lessons.get(l);
                if (!p.learnt.contains(l) && (t.need() == -1 || p.learnt.contains(t.need()))
                        && t.from() <= hour && hour <= t.to() && sitting[l] < t.room()) {
                    open.add(l);
                }
            }
            String deed = "first";
            for (Rule r : rules) {
                if (isUnder(p.kind, r.kind()) && r.cond().holds(new View(p, hour))) {
                    deed = r.deed();
                    break;
                }
            }
            if (open.isEmpty() || deed.equals("play")) {
                return null;
            }
            if (deed.equals("last")) {
                return open.get(open.size() - 1);
            }
            if (deed.equals("easy")) {
                return open.stream().min((a, b) -> {
                    int la = lessons.get(a).hard() - p.points[a], lb = lessons.get(b).hard() - p.points[b];
                    return la != lb ? Integer.compare(la, lb) : Integer.compare(a, b);
                }).get();
            }
            return open.get(0);
        }

        int pass(int act) {
            Integer[] where = new Integer[pupils.size()];
            sat = new int[8];
            for (Pupil p : pupils) {
                if (p.number != act - 1) {
                    where[p.number] = choice(p, sat);
                    if (where[p.number] != null) {
                        sat[where[p.number]]++;
                    }
                }
            }
            int worth = 0;
            for (Pupil p : pupils) {
                Integer l = where[p.number];
                if (l != null) {
                    p.points[l] += pace(p.kind, p.quick, hour);
                    if (p.points[l] >= lessons.get(l).hard()) {
                        p.learnt.add(l);
                        worth += lessons.get(l).hard();
                    }
                }
            }
            hour++;
            score += worth;
            return worth;
        }

        int passByLot() {
            z = z * 1103515245 + 12345;
            return pass((z >>> 16) % (pupils.size() + 1));
        }

        int someLearnt() {
            int set = 0;
            for (Pupil p : pupils) {
                for (int l : p.learnt) {
                    set |= 1 << l;
                }
            }
            return set;
        }
    }

    private static int parent(int kind) {
        return switch (kind) {
            case 0 -> -1;
            case 3 -> 2;
            case 5 -> 4;
            default -> 0;
        };
    }

    private static boolean isUnder(int kind, int above) {
        for (int k = kind; k >= 0; k = parent(k)) {
            if (k == above) {
                return true;
            }
        }
        return false;
    }

    private static int pace(int kind, int quick, int hour) {
        return switch (kind) {
            case 1 -> hour % 4 == 3 ? 0 : quick;
            case 2 -> hour == 6 ? 0 : quick * 2;
            case 3 -> pace(2, quick, hour) + 1;
            case 4 -> quick / 2 + 1;
            case 5 -> pace(4, quick, hour) + hour % 4;
            default -> quick;
        };
    }

    private static int length(int kind, int tall, int hour) {
        return switch (kind) {
            case 3 -> Math.max(0, length(2, tall, hour) - 2);
            case 4 -> tall * Math.abs(hour - 7);
            case 5 -> length(4, tall, hour) + 3;
            default -> tall * Math.abs(hour - 6);
        };
    }

    private World w = new World();
    private World kept = null;
    private final List<Integer> tape = new ArrayList<>();
    private List<int[]> rows = new ArrayList<>();
    private final Object[] sheets = new Object[4];
    private final Object[] shelves = new Object[4];
    private List<Integer> trace = new ArrayList<>();

    private boolean isPupil(int p) {
        return p >= 0 && p < w.pupils.size();
    }

    private boolean isLesson(int l) {
        return l >= 0 && l < w.lessons.size();
    }

    int shadow(int kind, int quick, int tall) {
        if (kind < 1 || kind > 5 || quick < 1 || quick > 9 || tall < 1 || tall > 9) {
            return BAD;
        }
        if (w.pupils.size() == 6) {
            return FULL;
        }
        Pupil p = new Pupil();
        p.number = w.pupils.size();
        p.kind = kind;
        p.quick = quick;
        p.tall = tall;
        w.pupils.add(p);
        return p.number;
    }

    int shadowOf(int n, int what) {
        if (!isPupil(n)) {
            return BAD;
        }
        Pupil p = w.pupils.get(n);
        return switch (what) {
            case 0 -> p.kind;
            case 1 -> p.quick;
            case 2 -> p.tall;
            case 3 -> p.learnt.size();
            case 4 -> pace(p.kind, p.quick, w.hour);
            case 5 -> {
                Integer l = w.choice(p, new int[8]);
                yield l == null ? 8 : l;
            }
            case 6 -> length(p.kind, p.tall, w.hour);
            default -> BAD;
        };
    }

    int change(int n, int what, int v) {
        if (!isPupil(n) || what < 1 || what > 2 || v < 1 || v > 9) {
            return BAD;
        }
        Pupil p = w.pupils.get(n);
        int was = what == 1 ? p.quick : p.tall;
        if (what == 1) {
            p.quick = v;
        } else {
            p.tall = v;
        }
        return was;
    }

    int remake(int n, int kind) {
        if (!isPupil(n) || kind < 1 || kind > 5) {
            return BAD;
        }
        int was = w.pupils.get(n).kind;
        w.pupils.get(n).kind = kind;
        return was;
    }

    int lesson(int hard, int need, int from, int to, int room) {
        if (hard < 1 || hard > 20 || need < -1 || need >= w.lessons.size() || from < 0 || to > 15 || to < from
                || room < 1 || room > 6) {
            return BAD;
        }
        if (w.lessons.size() == 8) {
            return FULL;
        }
        w.lessons.add(new Lesson(hard, need, from, to, room));
        return w.lessons.size() - 1;
    }

    int lessonOf(int l, int what) {
        if (!isLesson(l)) {
            return BAD;
        }
        Lesson t = w.lessons.get(l);
        return switch (what) {
            case 0 -> t.hard();
            case 1 -> t.need();
            case 2 -> t.from();
            case 3 -> t.to();
            case 4 -> t.room();
            case 5 -> (int) w.pupils.stream().filter(p -> p.learnt.contains(l)).count();
            default -> BAD;
        };
    }

    int points(int p, int l) {
        return isPupil(p) && isLesson(l) ? w.pupils.get(p).points[l] : BAD;
    }

    int dusk(int v) {
        if (v < 1 || v > 16) {
            return BAD;
        }
        if (v < w.hour) {
            return STATE;
        }
        int was = w.dusk;
        w.dusk = v;
        return was;
    }

    int anew() {
        int was = w.hour;
        w.hour = 0;
        w.score = 0;
        for (Pupil p : w.pupils) {
            p.points = new int[8];
            p.learnt.clear();
        }
        return was;
    }

    int state(int what) {
        return switch (what) {
            case 0 -> w.hour;
            case 1 -> w.dusk;
            case 2 -> w.score;
            case 3 -> w.over() ? 1 : 0;
            default -> BAD;
        };
    }

    int feed(long eight, int n) {
        if (n < 1 || n > 8) {
            return BAD;
        }
        if (tape.size() + n > 200) {
            return FULL;
        }
        for (int k = 0; k < n; k++) {
            tape.add((int) (eight & 0xFF));
            eight >>>= 8;
        }
        return tape.size();
    }

    private static final class Fault extends Exception {
        private static final long serialVersionUID = 1;
        final int place;

        Fault(int place) {
            this.place = place;
        }
    }

    private record Token(String text, int place) { }

    /** Reads by recursion into conditions as functions; the text's end is the empty token. */
    private static final class Parser {
        final List<Token> tokens = new ArrayList<>();
        int at = 0;

        Parser(List<Integer> tape) {
            StringBuilder b = new StringBuilder();
            for (int c : tape) {
                b.append((char) c);
            }
            Matcher m = Pattern.compile("[a-z]+|[0-9]+|[^ ]", Pattern.DOTALL).matcher(b);
            while (m.find()) {
                tokens.add(new Token(m.group(), m.start()));
            }
            tokens.add(new Token("", b.length()));
        }

        String peek() {
            return tokens.get(at).text();
        }

        Fault fault() {
            return new Fault(tokens.get(at).place());
        }

        boolean accept(String text) {
            if (peek().equals(text)) {
                at++;
                return true;
            }
            return false;
        }

        void expect(String text) throws Fault {
            if (!accept(text)) {
                throw fault();
            }
        }

        List<Rule> text() throws Fault {
            List<Rule> rules = new ArrayList<>();
            while (!peek().isEmpty()) {
                if (rules.size() == 8 || !KINDS.contains(peek())) {
                    throw fault();
                }
                int kind = KINDS.indexOf(tokens.get(at++).text());
                Cond cond = accept("if") ? cond(0) : v -> true;
                if (!DOS.contains(peek())) {
                    throw fault();
                }
                String deed = tokens.get(at++).text();
                expect(";");
                rules.add(new Rule(kind, cond, deed));
            }
            return rules;
        }

        Cond cond(int open) throws Fault {
            Cond c = all(open);
            while (accept("or")) {
                Cond left = c, right = all(open);
                c = v -> left.holds(v) || right.holds(v);
            }
            return c;
        }

        Cond all(int open) throws Fault {
            Cond c = one(open);
            while (accept("and")) {
                Cond left = c, right = one(open);
                c = v -> left.holds(v) && right.holds(v);
            }
            return c;
        }

        Cond one(int open) throws Fault {
            if (accept("not")) {
                Cond c = one(open);
                return v -> !c.holds(v);
            }
            if (peek().equals("(")) {
                if (open == 3) {
                    throw fault();
                }
                at++;
                Cond c = cond(open + 1);
                expect(")");
                return c;
            }
            ToIntFunction<View> left = value();
            String sign = peek();
            if (!List.of("<", "=", ">").contains(sign)) {
                throw fault();
            }
            at++;
            ToIntFunction<View> right = value();
            IntPredicate p = switch (sign) {
                case "<" -> d -> d < 0;
                case "=" -> d -> d == 0;
                default -> d -> d > 0;
            };
            return v -> p.test(Integer.compare(left.applyAsInt(v), right.applyAsInt(v)));
        }

        ToIntFunction<View> value() throws Fault {
            String t = peek();
            ToIntFunction<View> f;
            if (t.matches("[0-9]{1,4}")) {
                int n = Integer.parseInt(t);
                f = v -> n;
            } else {
                f = switch (t) {
                    case "hour" -> v -> v.hour();
                    case "learnt" -> v -> v.p().learnt.size();
                    case "quick" -> v -> v.p().quick;
                    case "tall" -> v -> v.p().tall;
                    case "number" -> v -> v.p().number;
                    default -> throw fault();
                };
            }
            at++;
            return f;
        }
    }

    int rules() {
        Parser parser = new Parser(tape);
        tape.clear();
        try {
            w.rules = parser.text();
            return w.rules.size();
        } catch (Fault f) {
            return -100 - f.place;
        }
    }

    int hour() {
        return w.over() ? STATE : w.pass(0);
    }

    private static int set(Iterable<Integer> all) {
        int set = 0;
        for (int i : all) {
            set |= 1 << i;
        }
        return set;
    }

    int learnt(int p) {
        return isPupil(p) ? set(w.pupils.get(p).learnt) : BAD;
    }

    private static int rest(World t) {
        int worth = 0;
        while (!t.over()) {
            worth += t.pass(0);
        }
        return worth;
    }

    int on(int n) {
        if (n < 0 || n > 16) {
            return BAD;
        }
        World t = w.copy();
        int worth = 0;
        for (int k = 0; k < n && !t.over(); k++) {
            worth += t.pass(0);
        }
        return worth;
    }

    int when(int p, int l) {
        if (!isPupil(p) || !isLesson(l)) {
            return BAD;
        }
        World t = w.copy();
        if (t.pupils.get(p).learnt.contains(l)) {
            return NONE;
        }
        while (!t.over()) {
            t.pass(0);
            if (t.pupils.get(p).learnt.contains(l)) {
                return t.hour - 1;
            }
        }
        return NONE;
    }

    int letGo() {
        World t = w.copy();
        rest(t);
        int set = 0;
        for (Pupil p : t.pupils) {
            if (p.learnt.size() == t.lessons.size()) {
                set |= 1 << p.number;
            }
        }
        return set;
    }

    int crowd(int l) {
        if (!isLesson(l)) {
            return BAD;
        }
        World t = w.copy();
        int best = -1, at = NONE;
        while (!t.over()) {
            t.pass(0);
            if (t.sat[l] > best) {
                best = t.sat[l];
                at = t.hour - 1;
            }
        }
        return at;
    }

    int quickFor(int p) {
        if (!isPupil(p)) {
            return BAD;
        }
        int[] worth = new int[10];
        int best = 1;
        for (int q = 1; q <= 9; q++) {
            World t = w.copy();
            t.pupils.get(p).quick = q;
            worth[q] = rest(t);
            best = worth[q] > worth[best] ? q : best;
        }
        return best;
    }

    int letGoBy(int p) {
        if (!isPupil(p)) {
            return BAD;
        }
        for (int q = 1; q <= 9; q++) {
            World t = w.copy();
            t.pupils.get(p).quick = q;
            rest(t);
            if (t.pupils.get(p).learnt.size() == t.lessons.size()) {
                return q;
            }
        }
        return NONE;
    }

    int roomFor(int l) {
        if (!isLesson(l)) {
            return BAD;
        }
        int[] worth = new int[7];
        int best = 1;
        for (int r = 1; r <= 6; r++) {
            World t = w.copy();
            Lesson o = t.lessons.get(l);
            t.lessons.set(l, new Lesson(o.hard(), o.need(), o.from(), o.to(), r));
            worth[r] = rest(t);
            best = worth[r] > worth[best] ? r : best;
        }
        return best;
    }

    private static int pair(int p, int q) {
        return Math.min(p, q) * 8 + Math.max(p, q);
    }

    int quarrel(int p, int q, int v) {
        if (!isPupil(p) || !isPupil(q) || p == q || v < 0 || v > 1) {
            return BAD;
        }
        int was = w.quarrels.contains(pair(p, q)) ? 1 : 0;
        if (v == 1) {
            w.quarrels.add(pair(p, q));
        } else {
            w.quarrels.remove(pair(p, q));
        }
        return was;
    }

    int quarrels(int p) {
        if (!isPupil(p)) {
            return BAD;
        }
        int set = 0;
        for (int q = 0; q < 6; q++) {
            if (q != p && w.quarrels.contains(pair(p, q))) {
                set |= 1 << q;
            }
        }
        return set;
    }

    /** All seatings in n rooms, in their order. */
    private List<int[]> allSeatings(int n) {
        int m = w.pupils.size();
        List<int[]> all = new ArrayList<>();
        long total = 1;
        for (int k = 0; k < m; k++) {
            total *= n;
        }
        for (long code = 0; code < total; code++) {
            int[] s = new int[m];
            long c = code;
            for (int k = m - 1; k >= 0; k--) {
                s[k] = (int) (c % n);
                c /= n;
            }
            boolean good = true;
            for (int x : w.quarrels) {
                good &= s[x / 8] != s[x % 8];
            }
            if (good) {
                all.add(s);
            }
        }
        return all;
    }

    int rooms() {
        int n = 0;
        while (allSeatings(n).isEmpty()) {
            n++;
        }
        return n;
    }

    int seat(int p) {
        return isPupil(p) ? allSeatings(rooms()).get(0)[p] : BAD;
    }

    int seatings(int n) {
        return n < 1 || n > 4 ? BAD : allSeatings(n).size();
    }

    /** The row of a sheet of bytes, or what is refused (an Integer). */
    private Object bytesOf(int sheet) {
        if (sheets[sheet] != null && !(sheets[sheet] instanceof byte[])) {
            return -13;
        }
        return sheets[sheet] == null ? (Object) (-11) : sheets[sheet];
    }

    int match(int sheet, int i, int slack) {
        if (sheet < 0 || sheet > 3 || slack < 0 || slack > 99) {
            return BAD;
        }
        Object o = bytesOf(sheet);
        if (o instanceof Integer refusal) {
            return refusal;
        }
        byte[] row = (byte[]) o;
        int m = w.pupils.size();
        if (i < 0 || (long) i + m > row.length) {
            return -12;
        }
        List<Integer> given = new ArrayList<>();
        for (int k = 0; k < m; k++) {
            given.add((int) row[i + k]);
        }
        return gifts(0, given, slack);
    }

    private int gifts(int p, List<Integer> left, int slack) {
        if (left.isEmpty()) {
            return 1;
        }
        int count = 0;
        for (int k = 0; k < left.size(); k++) {
            if (Math.abs(left.get(k) - shadowOf(p, 6)) <= slack) {
                List<Integer> others = new ArrayList<>(left);
                others.remove(k);
                count += gifts(p + 1, others, slack);
            }
        }
        return count;
    }

    private record Outcome(int[] acts, int worth, int some) { }

    /** All plans of n, in their order. */
    private List<Outcome> allPlans(int n) {
        int m = Math.min(n, w.dusk - w.hour);
        List<Outcome> all = new ArrayList<>();
        extend(w, new int[0], 0, m, all);
        return all;
    }

    private static void extend(World at, int[] acts, int worth, int m, List<Outcome> all) {
        if (acts.length == m) {
            all.add(new Outcome(acts, worth, at.someLearnt()));
            return;
        }
        for (int a = 0; a <= at.pupils.size(); a++) {
            World t = at.copy();
            int more = t.pass(a);
            int[] longer = Arrays.copyOf(acts, acts.length + 1);
            longer[acts.length] = a;
            extend(t, longer, worth + more, m, all);
        }
    }

    private static boolean isPlanLength(int n) {
        return n >= 0 && n <= 4;
    }

    private List<Outcome> bestPlans(int n) {
        List<Outcome> all = allPlans(n);
        int most = all.stream().mapToInt(Outcome::worth).max().getAsInt();
        return all.stream().filter(o -> o.worth() == most).toList();
    }

    int best(int n) {
        return isPlanLength(n) ? bestPlans(n).get(0).worth() : BAD;
    }

    int ith(int n, int i) {
        if (!isPlanLength(n) || i < 0 || i > 3) {
            return BAD;
        }
        int[] acts = bestPlans(n).get(0).acts();
        return i < acts.length ? acts[i] : NONE;
    }

    int ways(int n) {
        return isPlanLength(n) ? bestPlans(n).size() : BAD;
    }

    private boolean isLessons(int set) {
        return set >= 0 && set < 1 << w.lessons.size();
    }

    int taught(int n, int set) {
        if (!isPlanLength(n) || !isLessons(set)) {
            return BAD;
        }
        return allPlans(n).stream().filter(o -> (o.some() & set) == set)
            .mapToInt(o -> (int) Arrays.stream(o.acts()).filter(a -> a != 0).count()).min().orElse(NONE);
    }

    int bars(int n, int set) {
        if (!isPlanLength(n) || !isLessons(set)) {
            return BAD;
        }
        List<Outcome> all = allPlans(n);
        for (int l = 0; l < 8; l++) {
            int bit = 1 << l;
            if ((set & bit) != 0 && all.stream().noneMatch(o -> (o.some() & bit) != 0)) {
                return l;
            }
        }
        return NONE;
    }

    private static int value(World at, int n, boolean most) {
        if (n == 0 || at.over()) {
            return 0;
        }
        List<Integer> values = new ArrayList<>();
        for (int a = 0; a <= at.pupils.size(); a++) {
            World t = at.copy();
            int worth = t.pass(a);
            values.add(worth + value(t, n - 1, !most));
        }
        values.sort(null);
        return most ? values.get(values.size() - 1) : values.get(0);
    }

    int game(int n) {
        return n < 1 || n > 4 ? BAD : value(w, n, true);
    }

    int play(int n) {
        if (n < 1 || n > 4) {
            return BAD;
        }
        if (w.over()) {
            return NONE;
        }
        int v = value(w, n, true);
        for (int a = 0;; a++) {
            World t = w.copy();
            int worth = t.pass(a);
            if (worth + value(t, n - 1, false) == v) {
                return a;
            }
        }
    }

    int report(int kind, int tall, int least, int most) {
        if (kind < 1 || kind > 5 || tall < 1 || tall > 9 || least < 0 || most > 999 || most < least) {
            return BAD;
        }
        if (w.reports.size() == 6) {
            return FULL;
        }
        w.reports.add(new Report(kind, tall, least, most));
        return w.reports.size() - 1;
    }

    int forget() {
        int were = w.reports.size();
        w.reports.clear();
        return were;
    }

    private static List<int[]> moments(List<Report> reports) {
        List<int[]> fit = new ArrayList<>();
        for (int h = 0; h <= 15; h++) {
            for (int s = 1; s <= 5; s++) {
                int hour = h, slant = s;
                if (reports.stream().allMatch(r -> {
                    int lies = length(r.kind(), r.tall(), hour) * slant;
                    return r.least() <= lies && lies <= r.most();
                })) {
                    fit.add(new int[] {h, s});
                }
            }
        }
        return fit;
    }

    int span(int what) {
        if (what < 0 || what > 2) {
            return BAD;
        }
        List<int[]> fit = moments(w.reports);
        if (what == 0) {
            return fit.size();
        }
        return fit.isEmpty() ? NONE : fit.get(0)[what - 1];
    }

    int liar() {
        if (!moments(w.reports).isEmpty()) {
            return NONE;
        }
        for (int r = 0; r < w.reports.size(); r++) {
            List<Report> others = new ArrayList<>(w.reports);
            others.remove(r);
            if (!moments(others).isEmpty()) {
                return r;
            }
        }
        return NONE;
    }

    int seed(int v) {
        int was = w.z;
        w.z = v;
        return was;
    }

    int lot() {
        return w.over() ? STATE : w.passByLot();
    }

    int often(int n, int v) {
        if (n < 1 || n > 40 || v < 0 || v > 999) {
            return BAD;
        }
        int z = w.z, count = 0;
        for (int k = 0; k < n; k++) {
            World t = w.copy();
            t.z = z;
            int worth = 0;
            while (!t.over()) {
                worth += t.passByLot();
            }
            z = t.z;
            count += worth >= v ? 1 : 0;
        }
        return count;
    }

    int prove(int n) {
        if (!isPlanLength(n)) {
            return BAD;
        }
        World t = w.copy();
        rows = new ArrayList<>();
        for (int a : bestPlans(n).get(0).acts()) {
            int worth = t.pass(a);
            rows.add(new int[] {a, worth, t.someLearnt()});
        }
        return rows.size();
    }

    int row(int k, int what) {
        return k < 0 || k >= rows.size() || what < 0 || what > 2 ? -9 : rows.get(k)[what];
    }

    int alterRow(int k, int what, int v) {
        if (k < 0 || k >= rows.size() || what < 0 || what > 2) {
            return -9;
        }
        int was = rows.get(k)[what];
        rows.get(k)[what] = v;
        return was;
    }

    int judge() {
        World t = w.copy();
        for (int k = 0; k < rows.size(); k++) {
            int[] r = rows.get(k);
            if (t.over() || r[0] < 0 || r[0] > t.pupils.size()) {
                return k + 1;
            }
            int worth = t.pass(r[0]);
            if (worth != r[1] || t.someLearnt() != r[2]) {
                return k + 1;
            }
        }
        return 0;
    }

    int sheet(int sheet, int sort, int n) {
        if (sheet < 0 || sheet > 3 || sort < -1 || sort > 4 || sort >= 0 && n > 40) {
            return BAD;
        }
        if (sort >= 0 && n < 0) {
            return -14;
        }
        sheets[sheet] = switch (sort) {
            case 0 -> new byte[n];
            case 1 -> new short[n];
            case 2 -> new int[n];
            case 3 -> new long[n];
            case 4 -> new boolean[n];
            default -> null;
        };
        return 1;
    }

    int write(int sheet, int i, int v) {
        if (sheet < 0 || sheet > 3) {
            return BAD;
        }
        Object o = sheets[sheet];
        if (o == null) {
            return -11;
        }
        if (i < 0 || i >= java.lang.reflect.Array.getLength(o)) {
            return -12;
        }
        if (o instanceof byte[] b) {
            b[i] = (byte) v;
        } else if (o instanceof short[] s) {
            s[i] = (short) v;
        } else if (o instanceof int[] n) {
            n[i] = v;
        } else if (o instanceof long[] l) {
            l[i] = v;
        } else {
            ((boolean[]) o)[i] = v != 0;
        }
        return 1;
    }

    private static int sortOf(Object o) {
        if (o instanceof byte[]) {
            return 0;
        }
        if (o instanceof short[]) {
            return 1;
        }
        if (o instanceof int[]) {
            return 2;
        }
        return o instanceof long[] ? 3 : 4;
    }

    int item(int sheet, int sort, int i) {
        if (sheet < 0 || sheet > 3 || sort < 0 || sort > 4) {
            return BAD;
        }
        Object o = sheets[sheet];
        if (o != null && sortOf(o) != sort) {
            return -13;
        }
        if (o == null) {
            return -11;
        }
        if (i < 0 || i >= java.lang.reflect.Array.getLength(o)) {
            return -12;
        }
        return switch (sort) {
            case 0 -> ((byte[]) o)[i];
            case 1 -> ((short[]) o)[i];
            case 2 -> ((int[]) o)[i];
            case 3 -> (int) ((long[]) o)[i];
            default -> ((boolean[]) o)[i] ? 1 : 0;
        };
    }

    int goAll(int sheet, int i, int n) {
        if (sheet < 0 || sheet > 3 || n < 0 || n > 20) {
            return BAD;
        }
        Object o = bytesOf(sheet);
        if (o instanceof Integer refusal) {
            return refusal;
        }
        byte[] row = (byte[]) o;
        int worth = 0;
        for (int k = 0; k < n; k++) {
            long place = (long) i + k;
            if (place < 0 || place >= row.length) {
                return -12;
            }
            int a = row[(int) place];
            if (a >= 0 && a <= w.pupils.size() && !w.over()) {
                worth += w.pass(a);
            }
        }
        return worth;
    }

    int wouldBe(int sheet, int i, int n) {
        if (sheet < 0 || sheet > 3 || n < 0 || n > 20) {
            return BAD;
        }
        Object o = bytesOf(sheet);
        if (o instanceof Integer refusal) {
            return refusal;
        }
        byte[] row = (byte[]) o;
        World t = w.copy();
        int worth = 0;
        for (int k = 0; k < n; k++) {
            long place = (long) i + k;
            if (place < 0 || place >= row.length) {
                return -12;
            }
            int a = row[(int) place];
            if (a < 0 || a > t.pupils.size() || t.over()) {
                return STATE;
            }
            worth += t.pass(a);
        }
        return worth;
    }

    int shelf(int shelf, int what, int n) {
        if (shelf < 0 || shelf > 3 || what < 0 || what > 2) {
            return BAD;
        }
        if (what == 0 && !isPupil(n) || what == 1 && (n < 0 || n > 3)) {
            return BAD;
        }
        shelves[shelf] = what == 0 ? (Object) n : what == 1 ? sheets[n] : null;
        return 1;
    }

    int taken(int shelf, int as) {
        if (shelf < 0 || shelf > 3 || !(as >= 0 && as <= 5 || as >= 10 && as <= 14)) {
            return BAD;
        }
        Object o = shelves[shelf];
        if (o == null || o instanceof Integer p && !isPupil(p)) {
            return -11;
        }
        if (o instanceof Integer p) {
            return as <= 5 && isUnder(w.pupils.get(p).kind, as) ? p : -13;
        }
        return as == 10 + sortOf(o) ? java.lang.reflect.Array.getLength(o) : -13;
    }

    private static final class ByZero extends RuntimeException {
        private static final long serialVersionUID = 1;
    }

    /** A real thing of its kind, by Java's own dispatch; a parting by 0 ends the whole act. */
    private static class Thing {
        final int n, a;
        final List<Integer> ran;

        Thing(int n, int a, List<Integer> ran) {
            this.n = n;
            this.a = a;
            this.ran = ran;
        }

        int lies(int x) {
            ran.add(10);
            return x * 2 + n;
        }

        int turns(int x) {
            ran.add(11);
            return lies(x) - a;
        }

        int folds(int x) {
            ran.add(12);
            if (n == a) {
                throw new ByZero();
            }
            return x / (n - a);
        }

        int asks(int x) {
            ran.add(13);
            return turns(x) * 3;
        }
    }

    private static final class Joined extends Thing {
        Joined(int n, int a, List<Integer> ran) {
            super(n, a, ran);
        }

        @Override
        int lies(int x) {
            ran.add(20);
            return super.lies(x) ^ a;
        }
    }

    private static class Gifted extends Thing {
        Gifted(int n, int a, List<Integer> ran) {
            super(n, a, ran);
        }

        @Override
        int turns(int x) {
            ran.add(30);
            return super.turns(x) + 9;
        }
    }

    private static final class Coloured extends Gifted {
        Coloured(int n, int a, List<Integer> ran) {
            super(n, a, ran);
        }

        @Override
        int lies(int x) {
            ran.add(50);
            return 0 - super.lies(x);
        }

        @Override
        int asks(int x) {
            ran.add(51);
            return super.asks(x) + folds(n);
        }
    }

    private static class Slow extends Thing {
        Slow(int n, int a, List<Integer> ran) {
            super(n, a, ran);
        }

        @Override
        int folds(int x) {
            ran.add(40);
            return super.folds(x) - 1;
        }
    }

    private static final class Borrowed extends Slow {
        Borrowed(int n, int a, List<Integer> ran) {
            super(n, a, ran);
        }

        @Override
        int turns(int x) {
            ran.add(60);
            return super.turns(x) * 2;
        }

        @Override
        int folds(int x) {
            ran.add(61);
            return super.folds(x) ^ lies(a);
        }
    }

    int act(int shelf, int act, int x) {
        trace = new ArrayList<>();
        if (shelf < 0 || shelf > 3 || act < 0 || act > 3) {
            return 0;
        }
        if (!(shelves[shelf] instanceof Integer p) || !isPupil(p)) {
            return 0;
        }
        int a = w.pupils.get(p).quick;
        Thing t = switch (w.pupils.get(p).kind) {
            case 1 -> new Joined(p, a, trace);
            case 2 -> new Gifted(p, a, trace);
            case 3 -> new Coloured(p, a, trace);
            case 4 -> new Slow(p, a, trace);
            default -> new Borrowed(p, a, trace);
        };
        try {
            return switch (act) {
                case 0 -> t.lies(x);
                case 1 -> t.turns(x);
                case 2 -> t.folds(x);
                default -> t.asks(x);
            };
        } catch (ByZero e) {
            return -15;
        }
    }

    int trace(int i) {
        return i >= 0 && i < Math.min(30, trace.size()) ? trace.get(i) : NONE;
    }

    int many(int what) {
        return switch (what) {
            case 0 -> w.pupils.size();
            case 1 -> w.rules.size();
            case 2 -> w.lessons.size();
            case 3 -> w.reports.size();
            case 4 -> rows.size();
            case 5 -> tape.size();
            case 6 -> trace.size();
            case 7 -> w.quarrels.size();
            default -> BAD;
        };
    }

    int keep() {
        kept = w.copy();
        return 1;
    }

    int again() {
        if (kept == null) {
            return NONE;
        }
        w = kept.copy();
        return w.pupils.size();
    }
}
