import java.util.Arrays;

/**
 * A school for shadows, as ../shared/DOC.md tells it. What the document's calls ask stands in the
 * public methods; the classes inside hold the school (what is kept), how far all have come in it,
 * the rules and who reads them, the plans, and the host with its sheets, shelves and trace.
 */
public final class ShadowSchool {
    public static final int BAD = -1, FULL = -2, NONE = -3, STATE = -4;

    private static final int NOTHING = -11, OUTSIDE = -12, OTHER_SORT = -13, BELOW_0 = -14, BY_0 = -15;
    private static final int NO_ROW = -9, FAULT_FROM = -100;

    private static final int MOST_SHADOWS = 6, MOST_LESSONS = 8, MOST_RULES = 8, MOST_REPORTS = 6;
    private static final int MOST_HOURS = 16, MOST_SLANT = 5, MOST_ROOMS = 4;
    private static final int MOST_QUICK = 9, MOST_TALL = 9, MOST_HARD = 20, MOST_PLACES = 6, MOST_KIND = 5;
    private static final int MOST_LONG = 999, MOST_SLACK = 99, MOST_TIMES = 40;
    private static final int MOST_ACTS = 4, MOST_GOES = 20, ROW_PARTS = 3;
    private static final int MOST_BYTES = 200, MOST_BODIES = 30;
    private static final int SHEETS = 4, SHELVES = 4, MOST_ITEMS = 40, MOST_SORT = 4;
    private static final int BYTES = 0, SHORTS = 1, BOOLEANS = 4;
    private static final int NO_LESSON = 8;
    private static final int DO_LAST = 0, DO_EASY = 1, DO_PLAY = 2, DO_AS_EVER = 3;

    /** Of each KIND itself and those above it, as a set. */
    private static final int[] SELF_AND_ABOVE = {1, 1 | 2, 1 | 4, 1 | 4 | 8, 1 | 16, 1 | 16 | 32};

    private final School school = new School();
    private final School kept = new School();
    private boolean isKept;
    private final Progress trial = new Progress();
    private final int[] chairs = new int[MOST_SHADOWS];
    private final Reader reader = new Reader();
    private final Plans plans = new Plans();
    private final Host host = new Host();

    public ShadowSchool() {
    }

    // ---- shadows, lessons

    public int shadow(int kind, int quick, int tall) {
        if (!isWithin(kind, 1, MOST_KIND) || !isWithin(quick, 1, MOST_QUICK) || !isWithin(tall, 1, MOST_TALL)) {
            return BAD;
        }
        return school.shadows >= MOST_SHADOWS ? FULL : school.addShadow(kind, quick, tall);
    }

    public int shadowOf(int p, int what) {
        if (!school.isShadow(p)) {
            return BAD;
        }
        Progress now = school.now;
        switch (what) {
            case 0: return school.kind[p];
            case 1: return school.quick[p];
            case 2: return school.tall[p];
            case 3: return Integer.bitCount(now.learnt[p]);
            case 4: return school.thing(p).paceIn(now.hour, school.quick[p]);
            case 5: return school.choice(now, p, 0);
            case 6: return school.lengthOf(p);
            default: return BAD;
        }
    }

    public int change(int p, int what, int v) {
        if (!school.isShadow(p) || !isWithin(what, 1, 2) || !isWithin(v, 1, what == 1 ? MOST_QUICK : MOST_TALL)) {
            return BAD;
        }
        int[] trait = what == 1 ? school.quick : school.tall;
        int was = trait[p];
        trait[p] = v;
        return was;
    }

    public int remake(int p, int kind) {
        if (!school.isShadow(p) || !isWithin(kind, 1, MOST_KIND)) {
            return BAD;
        }
        int was = school.kind[p];
        school.kind[p] = kind;
        return was;
    }

    public int lesson(int hard, int need, int from, int to, int room) {
        if (!isWithin(hard, 1, MOST_HARD) || !isWithin(need, -1, school.lessons - 1)
                || !isWithin(from, 0, MOST_HOURS - 1) || !isWithin(to, from, MOST_HOURS - 1)
                || !isWithin(room, 1, MOST_PLACES)) {
            return BAD;
        }
        return school.lessons >= MOST_LESSONS ? FULL : school.addLesson(hard, need, from, to, room);
    }

    public int lessonOf(int l, int what) {
        if (!school.isLesson(l)) {
            return BAD;
        }
        switch (what) {
            case 0: return school.hard[l];
            case 1: return school.need[l];
            case 2: return school.from[l];
            case 3: return school.to[l];
            case 4: return school.room[l];
            case 5: return school.now.howManyLearnt(l);
            default: return BAD;
        }
    }

    public int points(int p, int l) {
        return school.isShadow(p) && school.isLesson(l) ? school.now.points[p * MOST_LESSONS + l] : BAD;
    }

    public int dusk(int v) {
        if (!isWithin(v, 1, MOST_HOURS)) {
            return BAD;
        }
        if (v < school.now.hour) {
            return STATE;
        }
        int was = school.dusk;
        school.dusk = v;
        return was;
    }

    public int anew() {
        int was = school.now.hour;
        school.now.clear();
        return was;
    }

    public int state(int what) {
        switch (what) {
            case 0: return school.now.hour;
            case 1: return school.dusk;
            case 2: return school.now.score;
            case 3: return school.isOver(school.now) ? 1 : 0;
            default: return BAD;
        }
    }

    // ---- the rules

    public int feed(long eight, int n) {
        if (!isWithin(n, 1, 8)) {
            return BAD;
        }
        return reader.count + n > MOST_BYTES ? FULL : reader.take(eight, n);
    }

    public int rules() {
        int answer = reader.readAll();
        // A text with a FAULT leaves THE RULES as they were, so it is read into a draft.
        if (answer >= 0) {
            school.rules.copyFrom(reader.draft);
        }
        return answer;
    }

    // ---- hours

    public int hour() {
        return school.isOver(school.now) ? STATE : school.goBy(school.now, 0);
    }

    public int learnt(int p) {
        return school.isShadow(p) ? school.now.learnt[p] : BAD;
    }

    public int on(int n) {
        return isWithin(n, 0, MOST_HOURS) ? worthOfRest(n) : BAD;
    }

    public int when(int p, int l) {
        if (!school.isShadow(p) || !school.isLesson(l)) {
            return BAD;
        }
        trial.copyFrom(school.now);
        if (trial.hasLearnt(p, l)) {
            return NONE;
        }
        for (int h = trial.hour; h < school.dusk; h++) {
            school.goBy(trial, 0);
            if (trial.hasLearnt(p, l)) {
                return h;
            }
        }
        return NONE;
    }

    public int letGo() {
        worthOfRest(MOST_HOURS);
        int set = 0;
        for (int p = 0; p < school.shadows; p++) {
            if (trial.learnt[p] == school.allLessons()) {
                set |= 1 << p;
            }
        }
        return set;
    }

    public int crowd(int l) {
        if (!school.isLesson(l)) {
            return BAD;
        }
        trial.copyFrom(school.now);
        int most = -1;
        int fullest = NONE;
        for (int h = trial.hour; h < school.dusk; h++) {
            school.goBy(trial, 0);
            if (trial.sat[l] > most) {
                most = trial.sat[l];
                fullest = h;
            }
        }
        return fullest;
    }

    public int quickFor(int p) {
        return school.isShadow(p) ? worthiest(school.quick, p, MOST_QUICK) : BAD;
    }

    public int letGoBy(int p) {
        if (!school.isShadow(p)) {
            return BAD;
        }
        int was = school.quick[p];
        int least = NONE;
        for (int q = 1; q <= MOST_QUICK && least == NONE; q++) {
            school.quick[p] = q;
            worthOfRest(MOST_HOURS);
            if (trial.learnt[p] == school.allLessons()) {
                least = q;
            }
        }
        school.quick[p] = was;
        return least;
    }

    public int roomFor(int l) {
        return school.isLesson(l) ? worthiest(school.room, l, MOST_PLACES) : BAD;
    }

    /** What n HOURS of THE REST are WORTH; how it is behind them stays in the trial. */
    private int worthOfRest(int n) {
        trial.copyFrom(school.now);
        int worth = 0;
        for (int k = 0; k < n && !school.isOver(trial); k++) {
            worth += school.goBy(trial, 0);
        }
        return worth;
    }

    /** The least of 1 to most by which, put at a place of a row, THE REST is WORTH most; the row stays as it was. */
    private int worthiest(int[] row, int place, int most) {
        int was = row[place];
        int top = -1;
        int which = 1;
        for (int v = 1; v <= most; v++) {
            row[place] = v;
            int worth = worthOfRest(MOST_HOURS);
            if (worth > top) {
                top = worth;
                which = v;
            }
        }
        row[place] = was;
        return which;
    }

    // ---- seats, lengths

    public int quarrel(int p, int q, int v) {
        if (!school.isShadow(p) || !school.isShadow(q) || p == q || !isWithin(v, 0, 1)) {
            return BAD;
        }
        int was = school.quarrels[p] >> q & 1;
        school.setQuarrel(p, q, v);
        return was;
    }

    public int quarrels(int p) {
        return school.isShadow(p) ? school.quarrels[p] : BAD;
    }

    public int rooms() {
        return fewestRooms();
    }

    public int seat(int p) {
        if (!school.isShadow(p)) {
            return BAD;
        }
        fewestRooms();
        return chairs[p];
    }

    public int seatings(int n) {
        return isWithin(n, 1, MOST_ROOMS) ? countSeatings(0, n) : BAD;
    }

    public int match(int sheet, int i, int slack) {
        if (!host.isSheet(sheet) || !isWithin(slack, 0, MOST_SLACK)) {
            return BAD;
        }
        int refusal = host.refusalAs(sheet, BYTES);
        if (refusal != 0) {
            return refusal;
        }
        return host.hasItems(sheet, i, school.shadows) ? countGifts(0, 0, sheet, i, slack) : OUTSIDE;
    }

    /** FEWEST; the FIRST SEATING in so many rooms stays in the chairs. */
    private int fewestRooms() {
        for (int n = 0; n <= MOST_SHADOWS; n++) {
            if (findSeats(0, n)) {
                return n;
            }
        }
        return MOST_SHADOWS;
    }

    /** Seats SHADOW p and those behind it; lesser rooms are tried first, so what it finds is the FIRST. */
    private boolean findSeats(int p, int n) {
        if (p >= school.shadows) {
            return true;
        }
        for (int r = 0; r < n; r++) {
            if (mayTake(p, r)) {
                chairs[p] = r;
                if (findSeats(p + 1, n)) {
                    return true;
                }
            }
        }
        return false;
    }

    private int countSeatings(int p, int n) {
        if (p >= school.shadows) {
            return 1;
        }
        int count = 0;
        for (int r = 0; r < n; r++) {
            if (mayTake(p, r)) {
                chairs[p] = r;
                count += countSeatings(p + 1, n);
            }
        }
        return count;
    }

    private boolean mayTake(int p, int r) {
        for (int q = 0; q < p; q++) {
            if (chairs[q] == r && (school.quarrels[p] >> q & 1) == 1) {
                return false;
            }
        }
        return true;
    }

    /** In how many ways SHADOW p and those behind it get the items from i on that aren't used (a set). */
    private int countGifts(int p, int used, int sheet, int i, int slack) {
        if (p >= school.shadows) {
            return 1;
        }
        int count = 0;
        for (int k = 0; k < school.shadows; k++) {
            if ((used >> k & 1) == 0 && Math.abs(host.itemAt(sheet, i + k) - school.lengthOf(p)) <= slack) {
                count += countGifts(p + 1, used | 1 << k, sheet, i, slack);
            }
        }
        return count;
    }

    // ---- plans

    public int best(int n) {
        if (!isWithin(n, 0, MOST_ACTS)) {
            return BAD;
        }
        plans.walkAll(school, n, 0);
        return plans.top;
    }

    public int ith(int n, int i) {
        if (!isWithin(n, 0, MOST_ACTS) || !isWithin(i, 0, MOST_ACTS - 1)) {
            return BAD;
        }
        plans.walkAll(school, n, 0);
        return i < plans.length ? plans.first[i] : NONE;
    }

    public int ways(int n) {
        if (!isWithin(n, 0, MOST_ACTS)) {
            return BAD;
        }
        plans.walkAll(school, n, 0);
        return plans.tops;
    }

    public int taught(int n, int set) {
        if (!isWithin(n, 0, MOST_ACTS) || !school.isSetOfLessons(set)) {
            return BAD;
        }
        plans.walkAll(school, n, set);
        return plans.fewest <= MOST_ACTS ? plans.fewest : NONE;
    }

    public int bars(int n, int set) {
        if (!isWithin(n, 0, MOST_ACTS) || !school.isSetOfLessons(set)) {
            return BAD;
        }
        plans.walkAll(school, n, set);
        int barred = set & ~plans.reached;
        return barred == 0 ? NONE : Integer.numberOfTrailingZeros(barred);
    }

    // ---- a game, moments, lots

    public int game(int n) {
        return isWithin(n, 1, MOST_ACTS) ? plans.valueOfGame(school, n) : BAD;
    }

    public int play(int n) {
        if (!isWithin(n, 1, MOST_ACTS)) {
            return BAD;
        }
        if (school.isOver(school.now)) {
            return NONE;
        }
        plans.valueOfGame(school, n);
        return plans.opening;
    }

    public int report(int kind, int tall, int least, int most) {
        if (!isWithin(kind, 1, MOST_KIND) || !isWithin(tall, 1, MOST_TALL)
                || !isWithin(least, 0, MOST_LONG) || !isWithin(most, least, MOST_LONG)) {
            return BAD;
        }
        return school.reports >= MOST_REPORTS ? FULL : school.addReport(kind, tall, least, most);
    }

    public int forget() {
        int were = school.reports;
        school.reports = 0;
        return were;
    }

    public int span(int what) {
        if (!isWithin(what, 0, 2)) {
            return BAD;
        }
        if (what == 0) {
            return school.howManyFit();
        }
        int moment = school.firstFit(NONE);
        if (moment < 0) {
            return NONE;
        }
        return what == 1 ? moment / MOST_SLANT : moment % MOST_SLANT + 1;
    }

    public int liar() {
        if (school.firstFit(NONE) >= 0) {
            return NONE;
        }
        for (int r = 0; r < school.reports; r++) {
            if (school.firstFit(r) >= 0) {
                return r;
            }
        }
        return NONE;
    }

    public int seed(int v) {
        int was = school.z;
        school.z = v;
        return was;
    }

    public int lot() {
        return school.isOver(school.now) ? STATE : school.goByLot(school.now);
    }

    public int often(int n, int v) {
        if (!isWithin(n, 1, MOST_TIMES) || !isWithin(v, 0, MOST_LONG)) {
            return BAD;
        }
        int was = school.z;
        int count = 0;
        for (int k = 0; k < n; k++) {
            trial.copyFrom(school.now);
            int worth = 0;
            for (int h = trial.hour; h < school.dusk; h++) {
                worth += school.goByLot(trial);
            }
            if (worth >= v) {
                count++;
            }
        }
        school.z = was;
        return count;
    }

    // ---- rows

    public int prove(int n) {
        if (!isWithin(n, 0, MOST_ACTS)) {
            return BAD;
        }
        plans.walkAll(school, n, 0);
        return plans.makeRows(school);
    }

    public int row(int k, int what) {
        return plans.hasRowPart(k, what) ? plans.rows[k][what] : NO_ROW;
    }

    public int alterRow(int k, int what, int v) {
        if (!plans.hasRowPart(k, what)) {
            return NO_ROW;
        }
        int was = plans.rows[k][what];
        plans.rows[k][what] = v;
        return was;
    }

    public int judge() {
        return plans.firstWrongRow(school);
    }

    // ---- the host

    public int sheet(int sheet, int sort, int n) {
        if (!host.isSheet(sheet) || !isWithin(sort, Host.MISSING, MOST_SORT)) {
            return BAD;
        }
        if (sort != Host.MISSING && n > MOST_ITEMS) {
            return BAD;
        }
        if (sort != Host.MISSING && n < 0) {
            return BELOW_0;
        }
        host.makeRow(sheet, sort, n);
        return 1;
    }

    public int write(int sheet, int i, int v) {
        if (!host.isSheet(sheet)) {
            return BAD;
        }
        if (host.sorts[sheet] == Host.MISSING) {
            return NOTHING;
        }
        if (!host.hasItem(sheet, i)) {
            return OUTSIDE;
        }
        host.putItem(sheet, i, v);
        return 1;
    }

    public int item(int sheet, int sort, int i) {
        if (!host.isSheet(sheet) || !isWithin(sort, 0, MOST_SORT)) {
            return BAD;
        }
        int refusal = host.refusalAs(sheet, sort);
        if (refusal != 0) {
            return refusal;
        }
        return host.hasItem(sheet, i) ? host.itemAt(sheet, i) : OUTSIDE;
    }

    public int goAll(int sheet, int i, int n) {
        if (!host.isSheet(sheet) || !isWithin(n, 0, MOST_GOES)) {
            return BAD;
        }
        int refusal = host.refusalAs(sheet, BYTES);
        if (refusal != 0) {
            return refusal;
        }
        int worth = 0;
        for (int k = 0; k < n; k++) {
            if (!host.hasItem(sheet, i + k)) {
                return OUTSIDE;
            }
            int sentOut = host.itemAt(sheet, i + k);
            if (school.isAct(sentOut) && !school.isOver(school.now)) {
                worth += school.goBy(school.now, sentOut);
            }
        }
        return worth;
    }

    public int wouldBe(int sheet, int i, int n) {
        if (!host.isSheet(sheet) || !isWithin(n, 0, MOST_GOES)) {
            return BAD;
        }
        int refusal = host.refusalAs(sheet, BYTES);
        if (refusal != 0) {
            return refusal;
        }
        trial.copyFrom(school.now);
        int worth = 0;
        for (int k = 0; k < n; k++) {
            if (!host.hasItem(sheet, i + k)) {
                return OUTSIDE;
            }
            int sentOut = host.itemAt(sheet, i + k);
            if (!school.isAct(sentOut) || school.isOver(trial)) {
                return STATE;
            }
            worth += school.goBy(trial, sentOut);
        }
        return worth;
    }

    public int shelf(int shelf, int what, int n) {
        if (!host.isShelf(shelf)) {
            return BAD;
        }
        boolean isThere = what == Host.SHADOW && school.isShadow(n)
                || what == Host.ROW && host.isSheet(n) || what == Host.EMPTY;
        if (!isThere) {
            return BAD;
        }
        host.put(shelf, what, n);
        return 1;
    }

    public int taken(int shelf, int as) {
        if (!host.isShelf(shelf) || !isWithin(as, 0, MOST_KIND) && !isWithin(as, 10, 10 + MOST_SORT)) {
            return BAD;
        }
        if (host.holds[shelf] == Host.ROW) {
            return host.rowSorts[shelf] == as - 10 ? host.numbers[shelf] : OTHER_SORT;
        }
        int p = host.shadowOn(shelf);
        if (!school.isShadow(p)) {
            return NOTHING;
        }
        return as <= MOST_KIND && isOrIsUnder(school.kind[p], as) ? p : OTHER_SORT;
    }

    public int act(int shelf, int act, int x) {
        host.clearTrace();
        int p = host.isShelf(shelf) ? host.shadowOn(shelf) : -1;
        if (!school.isShadow(p)) {
            return 0;
        }
        host.number = p;
        host.quick = school.quick[p];
        Shade thing = school.thing(p);
        int answer = 0;
        // The bodies go seven deep by themselves, so nothing may stand between them and this call.
        switch (act) {
            case 0: answer = thing.lies(host, x); break;
            case 1: answer = thing.turns(host, x); break;
            case 2: answer = thing.folds(host, x); break;
            case 3: answer = thing.asks(host, x); break;
            default:
        }
        return host.isParted ? BY_0 : answer;
    }

    public int trace(int i) {
        return isWithin(i, 0, host.bodyCount - 1) ? host.bodies[i] : NONE;
    }

    public int many(int what) {
        switch (what) {
            case 0: return school.shadows;
            case 1: return school.rules.count;
            case 2: return school.lessons;
            case 3: return school.reports;
            case 4: return plans.rowCount;
            case 5: return reader.count;
            case 6: return host.bodyCount;
            case 7: return school.howManyQuarrel();
            default: return BAD;
        }
    }

    // ---- kept

    public int keep() {
        kept.copyFrom(school);
        isKept = true;
        return 1;
    }

    public int again() {
        if (!isKept) {
            return NONE;
        }
        school.copyFrom(kept);
        return school.shadows;
    }

    private static boolean isWithin(int v, int least, int most) {
        return v >= least && v <= most;
    }

    private static boolean isOrIsUnder(int kind, int above) {
        return (SELF_AND_ABOVE[kind] >> above & 1) == 1;
    }

    private static void copyRow(int[] from, int[] to) {
        System.arraycopy(from, 0, to, 0, Math.min(from.length, to.length));
    }

    /** What HOURS change. It stands apart from the school, so that HOURS can be tried out on a copy of it alone. */
    private static final class Progress {
        int hour;
        int score;
        final int[] points = new int[MOST_SHADOWS * MOST_LESSONS];
        final int[] learnt = new int[MOST_SHADOWS];
        /** How many sat in each LESSON in the latest HOUR. */
        final int[] sat = new int[MOST_LESSONS];

        void copyFrom(Progress other) {
            hour = other.hour;
            score = other.score;
            copyRow(other.points, points);
            copyRow(other.learnt, learnt);
        }

        void clear() {
            hour = 0;
            score = 0;
            Arrays.fill(points, 0);
            Arrays.fill(learnt, 0);
        }

        boolean hasLearnt(int p, int l) {
            return (learnt[p] >> l & 1) == 1;
        }

        int howManyLearnt(int l) {
            int count = 0;
            for (int p = 0; p < MOST_SHADOWS; p++) {
                count += learnt[p] >> l & 1;
            }
            return count;
        }

        int learntBySome() {
            int set = 0;
            for (int p = 0; p < MOST_SHADOWS; p++) {
                set |= learnt[p];
            }
            return set;
        }

        /** SHADOW p has sat in a LESSON that is so hard: whether it has LEARNT it by that. */
        boolean gain(int p, int l, int pace, int hard) {
            int place = p * MOST_LESSONS + l;
            points[place] += pace;
            if (points[place] < hard) {
                return false;
            }
            learnt[p] |= 1 << l;
            return true;
        }
    }

    /** All that is kept. */
    private static final class School {
        int shadows;
        final int[] kind = new int[MOST_SHADOWS];
        final int[] quick = new int[MOST_SHADOWS];
        final int[] tall = new int[MOST_SHADOWS];
        final int[] quarrels = new int[MOST_SHADOWS];
        int lessons;
        final int[] hard = new int[MOST_LESSONS];
        final int[] need = new int[MOST_LESSONS];
        final int[] from = new int[MOST_LESSONS];
        final int[] to = new int[MOST_LESSONS];
        final int[] room = new int[MOST_LESSONS];
        /** LESSONS by the HOURS in which they are given, as sets; plans ask for them thousands of times. */
        final int[] given = new int[MOST_HOURS + 1];
        int reports;
        final int[][] told = new int[MOST_REPORTS][4];
        int dusk = 12;
        int z = 1;
        final Rules rules = new Rules();
        final Progress now = new Progress();
        final Shade[] kinds = {new Shade(), new Joined(), new Gifted(), new Coloured(), new Slow(), new Borrowed()};

        void copyFrom(School other) {
            shadows = other.shadows;
            copyRow(other.kind, kind);
            copyRow(other.quick, quick);
            copyRow(other.tall, tall);
            copyRow(other.quarrels, quarrels);
            lessons = other.lessons;
            copyRow(other.hard, hard);
            copyRow(other.need, need);
            copyRow(other.from, from);
            copyRow(other.to, to);
            copyRow(other.room, room);
            copyRow(other.given, given);
            reports = other.reports;
            for (int r = 0; r < MOST_REPORTS; r++) {
                copyRow(other.told[r], told[r]);
            }
            dusk = other.dusk;
            z = other.z;
            rules.copyFrom(other.rules);
            now.copyFrom(other.now);
        }

        boolean isShadow(int p) {
            return p >= 0 && p < shadows;
        }

        boolean isLesson(int l) {
            return l >= 0 && l < lessons;
        }

        boolean isAct(int a) {
            return a >= 0 && a <= shadows;
        }

        boolean isSetOfLessons(int set) {
            return (set & ~allLessons()) == 0;
        }

        int allLessons() {
            return (1 << lessons) - 1;
        }

        boolean isOver(Progress g) {
            return g.hour >= dusk;
        }

        int addShadow(int ofKind, int howQuick, int howTall) {
            int p = shadows++;
            kind[p] = ofKind;
            quick[p] = howQuick;
            tall[p] = howTall;
            return p;
        }

        int addLesson(int howHard, int needed, int first, int last, int places) {
            int l = lessons++;
            hard[l] = howHard;
            need[l] = needed;
            from[l] = first;
            to[l] = last;
            room[l] = places;
            for (int h = first; h <= last; h++) {
                given[h] |= 1 << l;
            }
            return l;
        }

        int addReport(int ofKind, int howTall, int least, int most) {
            int r = reports++;
            told[r][0] = ofKind;
            told[r][1] = howTall;
            told[r][2] = least;
            told[r][3] = most;
            return r;
        }

        Shade thing(int p) {
            return kinds[kind[p]];
        }

        int lengthOf(int p) {
            return thing(p).lengthIn(now.hour, tall[p]);
        }

        void setQuarrel(int p, int q, int v) {
            quarrels[p] = quarrels[p] & ~(1 << q) | v << q;
            quarrels[q] = quarrels[q] & ~(1 << p) | v << p;
        }

        int howManyQuarrel() {
            int ends = 0;
            for (int p = 0; p < shadows; p++) {
                ends += Integer.bitCount(quarrels[p]);
            }
            return ends / 2;
        }

        /** An HOUR goes by, with who is SENT OUT told by an ACT: what it was WORTH. */
        int goBy(Progress g, int sentOut) {
            Arrays.fill(g.sat, 0);
            int full = 0;
            int worth = 0;
            for (int p = 0; p < shadows; p++) {
                int l = p + 1 == sentOut ? NO_LESSON : choice(g, p, full);
                if (l != NO_LESSON) {
                    g.sat[l]++;
                    if (g.sat[l] >= room[l]) {
                        full |= 1 << l;
                    }
                    if (g.gain(p, l, thing(p).paceIn(g.hour, quick[p]), hard[l])) {
                        worth += hard[l];
                    }
                }
            }
            g.hour++;
            g.score += worth;
            return worth;
        }

        int goByLot(Progress g) {
            z = z * 1103515245 + 12345;
            return goBy(g, (z >>> 16) % (shadows + 1));
        }

        /** CHOICE of a SHADOW, where some LESSONS (a set) have no place any more. */
        int choice(Progress g, int p, int full) {
            int open = openTo(g, p, full);
            if (open == 0) {
                return NO_LESSON;
            }
            switch (deedOf(g, p)) {
                case DO_LAST: return 31 - Integer.numberOfLeadingZeros(open);
                case DO_EASY: return easiest(g, p, open);
                case DO_PLAY: return NO_LESSON;
                default: return Integer.numberOfTrailingZeros(open);
            }
        }

        private int openTo(Progress g, int p, int full) {
            if (g.hour >= given.length) {
                return 0;
            }
            int has = g.learnt[p];
            int open = given[g.hour] & ~has & ~full;
            for (int l = 0; l < lessons && open >> l != 0; l++) {
                if (need[l] >= 0 && (has >> need[l] & 1) == 0) {
                    open &= ~(1 << l);
                }
            }
            return open;
        }

        private int deedOf(Progress g, int p) {
            if (rules.count == 0) {
                return DO_AS_EVER;
            }
            rules.tell(g.hour, Integer.bitCount(g.learnt[p]), quick[p], tall[p], p);
            return rules.deedFor(kind[p]);
        }

        private int easiest(Progress g, int p, int open) {
            int least = MOST_HARD + 1;
            int which = NO_LESSON;
            for (int l = 0; l < lessons; l++) {
                int lacks = hard[l] - g.points[p * MOST_LESSONS + l];
                if ((open >> l & 1) == 1 && lacks < least) {
                    least = lacks;
                    which = l;
                }
            }
            return which;
        }

        /** The first MOMENT that FITS, by HOURS and then SLANTS, numbered so; below 0: none. One REPORT is left out. */
        int firstFit(int leftOut) {
            for (int m = 0; m < MOST_HOURS * MOST_SLANT; m++) {
                if (fits(m, leftOut)) {
                    return m;
                }
            }
            return -1;
        }

        int howManyFit() {
            int count = 0;
            for (int m = 0; m < MOST_HOURS * MOST_SLANT; m++) {
                if (fits(m, NONE)) {
                    count++;
                }
            }
            return count;
        }

        private boolean fits(int moment, int leftOut) {
            for (int r = 0; r < reports; r++) {
                int[] t = told[r];
                int length = kinds[t[0]].lengthIn(moment / MOST_SLANT, t[1]) * (moment % MOST_SLANT + 1);
                if (r != leftOut && (length < t[2] || length > t[3])) {
                    return false;
                }
            }
            return true;
        }
    }

    /** THE RULES; conditions as steps on a stack of bits, ahead of which what they join stands. */
    private static final class Rules {
        /** The first three are the signs, as their bytes come. */
        static final int LESS = 0, SAME = 1, MORE = 2, AND = 3, OR = 4, NOT = 5;
        /** A step comes from 2 bytes or more. */
        static final int MOST_STEPS = MOST_BYTES / 2;
        static final int FACTS = 5;

        int count;
        int size;
        final int[] kinds = new int[MOST_RULES];
        final int[] deeds = new int[MOST_RULES];
        /** Behind which step each RULE's condition ends; none: it always holds. */
        final int[] ends = new int[MOST_RULES];
        final int[] steps = new int[MOST_STEPS];
        /** What a comparison compares, told by its place among the values. */
        final int[] lefts = new int[MOST_STEPS];
        final int[] rights = new int[MOST_STEPS];
        /** The FACTS, then the NUMBERS of the text; behind each of these stand 1 byte or more that aren't its own. */
        final int[] values = new int[FACTS + MOST_BYTES / 2];
        int valueCount = FACTS;

        void copyFrom(Rules other) {
            count = other.count;
            size = other.size;
            copyRow(other.kinds, kinds);
            copyRow(other.deeds, deeds);
            copyRow(other.ends, ends);
            copyRow(other.steps, steps);
            copyRow(other.lefts, lefts);
            copyRow(other.rights, rights);
            valueCount = other.valueCount;
            copyRow(other.values, values);
        }

        void clear() {
            count = 0;
            size = 0;
            valueCount = FACTS;
        }

        /** Where the NUMBER stands among the values. */
        int addValue(int n) {
            if (valueCount >= values.length) {
                return 0;
            }
            int place = valueCount++;
            values[place] = n;
            return place;
        }

        void addStep(int step, int left, int right) {
            if (size < MOST_STEPS) {
                steps[size] = step;
                lefts[size] = left;
                rights[size] = right;
                size++;
            }
        }

        void addRule(int kind, int deed) {
            if (count < MOST_RULES) {
                kinds[count] = kind;
                deeds[count] = deed;
                ends[count] = size;
                count++;
            }
        }

        void tell(int hour, int learnt, int quick, int tall, int number) {
            values[0] = hour;
            values[1] = learnt;
            values[2] = quick;
            values[3] = tall;
            values[4] = number;
        }

        /** What the first RULE says that is for a KIND and holds by the FACTS. */
        int deedFor(int kind) {
            int from = 0;
            for (int k = 0; k < count; k++) {
                if (isOrIsUnder(kind, kinds[k]) && holds(from, ends[k])) {
                    return deeds[k];
                }
                from = ends[k];
            }
            return DO_AS_EVER;
        }

        private boolean holds(int from, int to) {
            // Within 3 "(" at most 9 bits wait for what joins them, so an int has room for all.
            int bits = 1;
            for (int s = from; s < to; s++) {
                int top = bits & 1;
                int under = bits >> 1 & 1;
                switch (steps[s]) {
                    case AND: bits = bits >> 2 << 1 | under & top; break;
                    case OR: bits = bits >> 2 << 1 | under | top; break;
                    case NOT: bits ^= 1; break;
                    default:
                        int left = values[lefts[s]];
                        int right = values[rights[s]];
                        int sign = left < right ? LESS : left > right ? MORE : SAME;
                        bits = bits << 1 | (sign == steps[s] ? 1 : 0);
                }
            }
            return (bits & 1) == 1;
        }
    }

    /** THE TAPE, and how its TEXT is read: first into tokens, each with its place, then by the grammar. */
    private static final class Reader {
        /** All NAMES there are, each with a blank behind it; which one it is in this row is its token. */
        static final String NAMES =
            "shadow joined gifted coloured slow borrowed last easy play if or and not hour learnt quick tall number ";
        static final int LAST_KIND = 5, FIRST_DEED = 6, IF = 9, OR = 10, AND = 11, NOT = 12;
        static final int FIRST_FACT = 13, LAST_FACT = 17;
        /** Signs are tokens by their bytes, which lie between the NAMES' and this; NUMBERS are this and their own. */
        static final int NUMBER = 1000, MOST_DIGITS = 4;
        static final int STRANGE = -1, END = -2;
        static final int LETTER = 0, DIGIT = 1, OTHER = 2;
        static final int MOST_OPEN = 3;

        int count;
        final int[] bytes = new int[MOST_BYTES];
        final int[] tokens = new int[MOST_BYTES + 1];
        final int[] places = new int[MOST_BYTES + 1];
        int at;
        final Rules draft = new Rules();

        int take(long eight, int n) {
            for (int k = 0; k < n && count < MOST_BYTES; k++) {
                bytes[count] = (int) (eight >> 8 * k) & 255;
                count++;
            }
            return count;
        }

        /** THE TAPE is used up, its RULES become the draft: how many, or -100 less the FAULT. */
        int readAll() {
            cutIntoTokens();
            count = 0;
            at = 0;
            draft.clear();
            for (int k = 0; k < MOST_RULES && tokens[at] != END; k++) {
                if (!readRule()) {
                    return FAULT_FROM - places[at];
                }
            }
            return tokens[at] == END ? draft.count : FAULT_FROM - places[at];
        }

        private void cutIntoTokens() {
            int n = 0;
            int before = OTHER;
            for (int i = 0; i < count; i++) {
                int sort = sortOf(bytes[i]);
                boolean goesOn = sort != OTHER && sort == before;
                if (!goesOn && bytes[i] != ' ') {
                    tokens[n] = tokenAt(i, sort);
                    places[n] = i;
                    n++;
                }
                before = sort;
            }
            tokens[n] = END;
            places[n] = count;
        }

        private int sortOf(int b) {
            if (b >= 'a' && b <= 'z') {
                return LETTER;
            }
            return b >= '0' && b <= '9' ? DIGIT : OTHER;
        }

        private int tokenAt(int from, int sort) {
            if (sort == OTHER) {
                return signAt(from);
            }
            int to = from + 1;
            while (to < count && sortOf(bytes[to]) == sort) {
                to++;
            }
            return sort == LETTER ? nameAt(from, to) : numberAt(from, to);
        }

        private int signAt(int place) {
            switch (bytes[place]) {
                case ';':
                case '(':
                case ')':
                case '<':
                case '=':
                case '>': return bytes[place];
                default: return STRANGE;
            }
        }

        private int nameAt(int from, int to) {
            int which = 0;
            int start = 0;
            for (int i = 0; i < NAMES.length(); i++) {
                if (NAMES.charAt(i) == ' ') {
                    if (i - start == to - from && isNameAt(start, from, to - from)) {
                        return which;
                    }
                    which++;
                    start = i + 1;
                }
            }
            return STRANGE;
        }

        private boolean isNameAt(int start, int from, int length) {
            for (int k = 0; k < length; k++) {
                if (NAMES.charAt(start + k) != bytes[from + k]) {
                    return false;
                }
            }
            return true;
        }

        private int numberAt(int from, int to) {
            if (to - from > MOST_DIGITS) {
                return STRANGE;
            }
            int n = 0;
            for (int i = from; i < to; i++) {
                n = n * 10 + bytes[i] - '0';
            }
            return NUMBER + n;
        }

        // What reads a part answers whether it stands there; if not, the token at which it stopped is the FAULT.

        private boolean readRule() {
            int kind = tokens[at];
            if (!isWithin(kind, 0, LAST_KIND)) {
                return false;
            }
            goOn();
            if (tokens[at] == IF) {
                goOn();
                if (!readCondition(0)) {
                    return false;
                }
            }
            int deed = tokens[at] - FIRST_DEED;
            if (!isWithin(deed, DO_LAST, DO_PLAY)) {
                return false;
            }
            goOn();
            draft.addRule(kind, deed);
            return readSign(';');
        }

        /** With so many "(" open. An "or" joins only once the "and"s behind it are read. */
        private boolean readCondition(int open) {
            if (!readOne(open)) {
                return false;
            }
            boolean orWaits = false;
            for (int k = 0; k < MOST_BYTES && (tokens[at] == AND || tokens[at] == OR); k++) {
                boolean isAnd = tokens[at] == AND;
                if (!isAnd && orWaits) {
                    draft.addStep(Rules.OR, 0, 0);
                }
                goOn();
                if (!readOne(open)) {
                    return false;
                }
                if (isAnd) {
                    draft.addStep(Rules.AND, 0, 0);
                } else {
                    orWaits = true;
                }
            }
            if (orWaits) {
                draft.addStep(Rules.OR, 0, 0);
            }
            return true;
        }

        private boolean readOne(int open) {
            boolean isTurned = false;
            for (int k = 0; k < MOST_BYTES && tokens[at] == NOT; k++) {
                isTurned = !isTurned;
                goOn();
            }
            boolean stands = tokens[at] == '(' ? readWithin(open) : readComparison();
            if (stands && isTurned) {
                draft.addStep(Rules.NOT, 0, 0);
            }
            return stands;
        }

        private boolean readWithin(int open) {
            if (open >= MOST_OPEN) {
                return false;
            }
            goOn();
            return readCondition(open + 1) && readSign(')');
        }

        private boolean readComparison() {
            if (!isValue(tokens[at])) {
                return false;
            }
            int left = placeOfValue(tokens[at]);
            goOn();
            int step = tokens[at] - '<';
            if (!isWithin(step, Rules.LESS, Rules.MORE)) {
                return false;
            }
            goOn();
            if (!isValue(tokens[at])) {
                return false;
            }
            draft.addStep(step, left, placeOfValue(tokens[at]));
            goOn();
            return true;
        }

        private boolean readSign(int sign) {
            if (tokens[at] != sign) {
                return false;
            }
            goOn();
            return true;
        }

        private boolean isValue(int token) {
            return token >= NUMBER || isWithin(token, FIRST_FACT, LAST_FACT);
        }

        private int placeOfValue(int token) {
            return token >= NUMBER ? draft.addValue(token - NUMBER) : token - FIRST_FACT;
        }

        private void goOn() {
            if (at < MOST_BYTES) {
                at++;
            }
        }
    }

    /** All PLANS from how it is now, walked through; the GAME; ROWS, and who reads them. */
    private static final class Plans {
        /** How it is behind so many ACTS. */
        final Progress[] behind = {new Progress(), new Progress(), new Progress(), new Progress(), new Progress()};
        final int[] acts = new int[MOST_ACTS];
        int length;
        int top;
        int tops;
        final int[] first = new int[MOST_ACTS];
        int wanted;
        int fewest;
        int reached;
        int opening;
        int rowCount;
        final int[][] rows = new int[MOST_ACTS][ROW_PARTS];

        /** Finds the BEST of n, the fewest ACTS by which a set of LESSONS is LEARNT, and all that can be. */
        void walkAll(School s, int n, int set) {
            behind[0].copyFrom(s.now);
            length = Math.min(n, s.dusk - s.now.hour);
            top = -1;
            tops = 0;
            wanted = set;
            fewest = MOST_ACTS + 1;
            reached = 0;
            walk(s, 0, 0, 0);
        }

        private void walk(School s, int depth, int worth, int sent) {
            if (depth >= length || depth >= MOST_ACTS) {
                weigh(worth, sent, behind[depth].learntBySome());
                return;
            }
            Progress next = behind[depth + 1];
            for (int a = 0; a <= s.shadows; a++) {
                acts[depth] = a;
                next.copyFrom(behind[depth]);
                int gained = s.goBy(next, a);
                walk(s, depth + 1, worth + gained, a == 0 ? sent : sent + 1);
            }
        }

        private void weigh(int worth, int sent, int learnt) {
            if (worth > top) {
                top = worth;
                tops = 0;
                // PLANS come in their order, so the one that is first to have most is the FIRST.
                copyRow(acts, first);
            }
            if (worth == top) {
                tops++;
            }
            if ((wanted & ~learnt) == 0) {
                fewest = Math.min(fewest, sent);
            }
            reached |= learnt;
        }

        int valueOfGame(School s, int n) {
            behind[0].copyFrom(s.now);
            opening = 0;
            return valueFrom(s, 0, n);
        }

        private int valueFrom(School s, int depth, int n) {
            if (depth >= n || depth >= MOST_ACTS || s.isOver(behind[depth])) {
                return 0;
            }
            boolean wantsMost = depth % 2 == 0;
            Progress next = behind[depth + 1];
            int value = 0;
            for (int a = 0; a <= s.shadows; a++) {
                next.copyFrom(behind[depth]);
                int gained = s.goBy(next, a);
                int worth = gained + valueFrom(s, depth + 1, n);
                if (a == 0 || (wantsMost ? worth > value : worth < value)) {
                    value = worth;
                    if (depth == 0) {
                        opening = a;
                    }
                }
            }
            return value;
        }

        /** ROWS of the FIRST that the latest walk found. */
        int makeRows(School s) {
            Progress g = behind[0];
            rowCount = length;
            for (int k = 0; k < rowCount; k++) {
                rows[k][0] = first[k];
                rows[k][1] = s.goBy(g, first[k]);
                rows[k][2] = g.learntBySome();
            }
            return rowCount;
        }

        boolean hasRowPart(int k, int what) {
            return k >= 0 && k < rowCount && what >= 0 && what < ROW_PARTS;
        }

        /** The first ROW that isn't right, and 1 more; 0: all are. */
        int firstWrongRow(School s) {
            Progress g = behind[0];
            g.copyFrom(s.now);
            for (int k = 0; k < rowCount; k++) {
                int[] r = rows[k];
                if (!s.isAct(r[0]) || s.isOver(g) || s.goBy(g, r[0]) != r[1] || g.learntBySome() != r[2]) {
                    return k + 1;
                }
            }
            return 0;
        }
    }

    /** SHEETS, SHELVES, and the act that runs, with THE TRACE of its bodies. */
    private static final class Host {
        static final int MISSING = -1;
        static final int SHADOW = 0, ROW = 1, EMPTY = 2;

        final int[] sorts = {MISSING, MISSING, MISSING, MISSING};
        final int[] sizes = new int[SHEETS];
        /** An int is all that write() gives, so that longs need no more either. */
        final int[][] items = new int[SHEETS][MOST_ITEMS];
        final int[] holds = {EMPTY, EMPTY, EMPTY, EMPTY};
        /** Of what a SHELF holds: a SHADOW's number; of a row, which stays when its SHEET gets another, the size. */
        final int[] numbers = new int[SHELVES];
        final int[] rowSorts = new int[SHELVES];
        final int[] bodies = new int[MOST_BODIES];
        int bodyCount;
        boolean isParted;
        int number;
        int quick;

        boolean isSheet(int sheet) {
            return sheet >= 0 && sheet < SHEETS;
        }

        boolean isShelf(int shelf) {
            return shelf >= 0 && shelf < SHELVES;
        }

        boolean hasItem(int sheet, int i) {
            return i >= 0 && i < sizes[sheet];
        }

        /** Even where none is asked for, they must begin within the row or right at its end. */
        boolean hasItems(int sheet, int from, int n) {
            return from >= 0 && from <= sizes[sheet] - n;
        }

        /** 0: a SHEET can be taken for a sort. */
        int refusalAs(int sheet, int sort) {
            if (sorts[sheet] == MISSING) {
                return NOTHING;
            }
            return sorts[sheet] == sort ? 0 : OTHER_SORT;
        }

        void makeRow(int sheet, int sort, int n) {
            sorts[sheet] = sort;
            sizes[sheet] = sort == MISSING ? 0 : n;
            Arrays.fill(items[sheet], 0);
        }

        int itemAt(int sheet, int i) {
            return items[sheet][i];
        }

        void putItem(int sheet, int i, int v) {
            switch (sorts[sheet]) {
                case BYTES: items[sheet][i] = (byte) v; break;
                case SHORTS: items[sheet][i] = (short) v; break;
                case BOOLEANS: items[sheet][i] = v != 0 ? 1 : 0; break;
                default: items[sheet][i] = v;
            }
        }

        void put(int shelf, int what, int n) {
            holds[shelf] = what;
            numbers[shelf] = n;
            if (what == ROW) {
                holds[shelf] = sorts[n] == MISSING ? EMPTY : ROW;
                numbers[shelf] = sizes[n];
                rowSorts[shelf] = sorts[n];
            }
        }

        /** The number of the SHADOW that a SHELF holds (by now there may be no such one); -1: it holds none. */
        int shadowOn(int shelf) {
            return holds[shelf] == SHADOW ? numbers[shelf] : -1;
        }

        void clearTrace() {
            bodyCount = 0;
            isParted = false;
        }

        /** Behind a parting by 0 nothing counts as run: its answer is all there is. */
        void begins(int body) {
            if (!isParted && bodyCount < MOST_BODIES) {
                bodies[bodyCount] = body;
                bodyCount++;
            }
        }

        int part(int x, int by) {
            if (by == 0) {
                isParted = true;
                return 0;
            }
            return x / by;
        }
    }

    // The KINDS. They hold nothing: a SHADOW's numbers come with the call, so that one of each serves all.

    private static class Shade {
        int paceIn(int hour, int quick) {
            return quick;
        }

        int lengthIn(int hour, int tall) {
            return tall * Math.abs(hour - 6);
        }

        int lies(Host h, int x) {
            h.begins(10);
            return x * 2 + h.number;
        }

        int turns(Host h, int x) {
            h.begins(11);
            return lies(h, x) - h.quick;
        }

        int folds(Host h, int x) {
            h.begins(12);
            return h.part(x, h.number - h.quick);
        }

        int asks(Host h, int x) {
            h.begins(13);
            return turns(h, x) * 3;
        }
    }

    private static final class Joined extends Shade {
        @Override
        int paceIn(int hour, int quick) {
            return hour % 4 == 3 ? 0 : super.paceIn(hour, quick);
        }

        @Override
        int lies(Host h, int x) {
            h.begins(20);
            return super.lies(h, x) ^ h.quick;
        }
    }

    private static class Gifted extends Shade {
        @Override
        int paceIn(int hour, int quick) {
            return hour == 6 ? 0 : 2 * super.paceIn(hour, quick);
        }

        @Override
        int turns(Host h, int x) {
            h.begins(30);
            return super.turns(h, x) + 9;
        }
    }

    private static final class Coloured extends Gifted {
        @Override
        int paceIn(int hour, int quick) {
            return super.paceIn(hour, quick) + 1;
        }

        @Override
        int lengthIn(int hour, int tall) {
            return Math.max(0, super.lengthIn(hour, tall) - 2);
        }

        @Override
        int lies(Host h, int x) {
            h.begins(50);
            return 0 - super.lies(h, x);
        }

        @Override
        int asks(Host h, int x) {
            h.begins(51);
            int asked = super.asks(h, x);
            return asked + folds(h, h.number);
        }
    }

    private static class Slow extends Shade {
        @Override
        int paceIn(int hour, int quick) {
            return super.paceIn(hour, quick) / 2 + 1;
        }

        @Override
        int lengthIn(int hour, int tall) {
            return tall * Math.abs(hour - 7);
        }

        @Override
        int folds(Host h, int x) {
            h.begins(40);
            return super.folds(h, x) - 1;
        }
    }

    private static final class Borrowed extends Slow {
        @Override
        int paceIn(int hour, int quick) {
            return super.paceIn(hour, quick) + hour % 4;
        }

        @Override
        int lengthIn(int hour, int tall) {
            return super.lengthIn(hour, tall) + 3;
        }

        @Override
        int turns(Host h, int x) {
            h.begins(60);
            return super.turns(h, x) * 2;
        }

        @Override
        int folds(Host h, int x) {
            h.begins(61);
            int folded = super.folds(h, x);
            return folded ^ lies(h, h.quick);
        }
    }
}
