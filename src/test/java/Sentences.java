import java.util.function.Supplier;
import java.util.function.ToIntFunction;

/**
 * What the tests of single sentences share: of() names the promise and the sentence that is tested, due() says what it
 * asks, refused() looks also at what a refused call must leave. Every method without parameters in a class under this
 * one is such a test; SentencesTest runs them.
 */
abstract class Sentences extends Calls {
    private static final Document DOCUMENT = new Document();
    private static int wrong = 0;
    private static int promise = 0;
    private static int sentences = 0;
    private static int dues = 0;
    private static int duesOfThis = 1;
    private static String sentence = "";

    /** What follows tests this sentence; it stands in the promise's own section, or in the Terms that it goes by. */
    static void of(int ofPromise, String quoted) {
        endSentence();
        promise = ofPromise;
        sentence = quoted;
        sentences++;
        duesOfThis = 0;
        if (!DOCUMENT.quote(ofPromise, quoted)) {
            fail("the document has no such sentence there");
        }
    }

    private static void endSentence() {
        if (duesOfThis == 0) {
            fail("nothing was asked");
        }
    }

    private static void fail(String what) {
        wrong++;
        System.out.println("promise " + promise + ", \"" + sentence + "\": " + what);
    }

    static void due(String what, long got, long want) {
        dues++;
        duesOfThis++;
        if (got != want) {
            fail(what + " answered " + got + ", due is " + want);
        }
    }

    /** A call on a school answers a refusal, and leaves all as it is without that call. */
    static void refused(String what, Supplier<ShadowSchool> school, ToIntFunction<ShadowSchool> call, int want) {
        ShadowSchool x = school.get();
        due(what, call.applyAsInt(x), want);
        same("behind " + what, picture(x), picture(school.get()));
    }

    /** A call that only asks leaves all as it is without that call. */
    static void changesNothing(String what, Supplier<ShadowSchool> school, ToIntFunction<ShadowSchool> call) {
        ShadowSchool x = school.get();
        call.applyAsInt(x);
        same("behind " + what, picture(x), picture(school.get()));
    }

    private static void same(String what, String got, String want) {
        dues++;
        duesOfThis++;
        if (!got.equals(want)) {
            fail(what + " it is " + got + ", due is " + want);
        }
    }

    /** Says how it went: whether all is as due. */
    static boolean end() {
        endSentence();
        for (String left : DOCUMENT.notQuoted()) {
            wrong++;
            System.out.println("no test for " + left);
        }
        System.out.println(sentences + " tests of sentences, " + dues + " answers: "
            + (wrong == 0 ? "all as due" : wrong + " not as due"));
        return wrong == 0;
    }

    /** Within a day, with something of all that there is: 3 SHADOWS, 3 LESSONS, HOUR 2 of 10, 3 ROWS, 4 bodies. */
    static ShadowSchool school() {
        ShadowSchool x = new ShadowSchool();
        x.shadow(1, 3, 4);
        x.shadow(2, 2, 5);
        x.shadow(5, 4, 2);
        x.lesson(6, -1, 0, 15, 1);
        x.lesson(4, 0, 1, 9, 6);
        x.lesson(9, -1, 0, 5, 2);
        x.quarrel(0, 2, 1);
        x.report(3, 3, 16, 16);
        x.report(5, 2, 0, 99);
        read(x, "gifted if hour > 1 last;");
        x.seed(77);
        x.keep();
        x.dusk(10);
        pass(x, 2);
        x.prove(3);
        bytes(x, 0, 1, 3, 0, 9);
        x.sheet(1, 1, 2);
        x.write(1, 1, -300);
        x.sheet(2, 0, 0);
        x.shelf(0, 0, 2);
        x.shelf(1, 1, 1);
        x.shelf(3, 0, 1);
        x.act(0, 2, 50);
        feed(x, "slow last; joi");
        return x;
    }

    /** As many SHADOWS, LESSONS, REPORTS and bytes on THE TAPE as there may be. */
    static ShadowSchool full() {
        ShadowSchool x = alike(6, 4, 9, 9);
        for (int l = 0; l < 8; l++) {
            x.lesson(20, l - 1, 0, 15, 6);
        }
        for (int r = 0; r < 6; r++) {
            x.report(5, 9, 0, 999);
        }
        feed(x, " ".repeat(199) + "?");
        return x;
    }

    /** The school, when it is OVER. */
    static ShadowSchool over() {
        ShadowSchool x = school();
        x.dusk(2);
        return x;
    }

    /** All that can be seen of an object, by some 350 calls at most; the object is of no use behind it. */
    private static String picture(ShadowSchool x) {
        StringBuilder s = new StringBuilder();
        addCounts(x, s);
        addShadows(x, s);
        addLessons(x, s);
        addHost(x, s);
        add(s, " rest", x.on(16), x.letGo());
        add(s, " moments", x.span(0), x.span(1), x.span(2), x.liar());
        add(s, " z", x.seed(0));
        add(s, " tape", x.rules());
        add(s, " kept", x.again());
        addCounts(x, s);
        return s.toString();
    }

    private static void addCounts(ShadowSchool x, StringBuilder s) {
        add(s, " many", x.many(0), x.many(1), x.many(2), x.many(3), x.many(4), x.many(5), x.many(6), x.many(7));
        add(s, " state", x.state(0), x.state(1), x.state(2), x.state(3));
    }

    private static void addShadows(ShadowSchool x, StringBuilder s) {
        int shadows = x.many(0);
        int lessons = x.many(2);
        for (int p = 0; p < shadows; p++) {
            add(s, " shadow", x.learnt(p), x.quarrels(p));
            for (int what = 0; what <= 6; what++) {
                add(s, "", x.shadowOf(p, what));
            }
            for (int l = 0; l < lessons; l++) {
                add(s, "", x.points(p, l));
            }
        }
    }

    private static void addLessons(ShadowSchool x, StringBuilder s) {
        int lessons = x.many(2);
        for (int l = 0; l < lessons; l++) {
            add(s, " lesson");
            for (int what = 0; what <= 5; what++) {
                add(s, "", x.lessonOf(l, what));
            }
        }
    }

    private static void addHost(ShadowSchool x, StringBuilder s) {
        for (int k = 0; k <= 3; k++) {
            add(s, " row", x.row(k, 0), x.row(k, 1), x.row(k, 2));
            add(s, " sheet");
            for (int sort = 0; sort <= 4; sort++) {
                int item = 0;
                for (int i = 0; i < 5 && item != OTHER && item != NOTHING && item != OUTSIDE; i++) {
                    item = x.item(k, sort, i);
                    add(s, "", item);
                }
            }
            add(s, " shelf");
            for (int as = 0; as <= 14; as = as == 5 ? 10 : as + 1) {
                add(s, "", x.taken(k, as));
            }
        }
        int bodies = x.many(6);
        add(s, " trace");
        for (int i = 0; i < bodies; i++) {
            add(s, "", x.trace(i));
        }
    }

    private static void add(StringBuilder s, String what, int... answers) {
        s.append(what);
        for (int a : answers) {
            s.append(' ').append(a);
        }
    }
}
