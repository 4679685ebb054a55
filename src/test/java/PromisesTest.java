/** For each promise of the document what it asks: ordinary calls, the edges it names, and wrong numbers. */
public final class PromisesTest extends Calls {
    private static int wrong = 0;
    private static int promise = 0;

    private static void due(String what, long got, long want) {
        if (got != want) {
            wrong++;
            System.out.println("promise " + promise + ": " + what + " answered " + got + ", due is " + want);
        }
    }

    private static void fault(String text, int place) {
        ShadowSchool x = new ShadowSchool();
        due("'" + text + "'", read(x, text), -100 - place);
        due("RULES behind '" + text + "'", x.many(1), 0);
        due("THE TAPE behind '" + text + "'", x.many(5), 0);
    }

    /** SHADOWS 0 and 1 (joined, QUICK 3 and 2) for one place in a LESSON of 6, behind which is one of 4 for all. */
    private static ShadowSchool narrow() {
        ShadowSchool x = new ShadowSchool();
        x.shadow(1, 3, 4);
        x.shadow(1, 2, 5);
        x.lesson(6, -1, 0, 15, 1);
        x.lesson(4, 0, 0, 15, 6);
        return x;
    }

    private static void newObject() {
        promise = 1;
        ShadowSchool x = new ShadowSchool();
        for (int what = 0; what <= 7; what++) {
            due("many " + what, x.many(what), 0);
        }
        due("HOUR", x.state(0), 0);
        due("DUSK", x.state(1), 12);
        due("SCORE", x.state(2), 0);
        due("OVER", x.state(3), 0);
        due("again", x.again(), NONE);
        due("seed", x.seed(5), 1);
        for (int k = 0; k <= 3; k++) {
            due("sheet " + k, x.item(k, 0, 0), -11);
            due("shelf " + k, x.taken(k, 0), -11);
        }
        due("BAD", ShadowSchool.BAD, -1);
        due("FULL", ShadowSchool.FULL, -2);
        due("NONE", ShadowSchool.NONE, -3);
        due("STATE", ShadowSchool.STATE, -4);
    }

    private static void shadow() {
        promise = 2;
        ShadowSchool x = new ShadowSchool();
        int[][] bad = {{0, 1, 1}, {6, 1, 1}, {MIN, 1, 1}, {MAX, 1, 1}, {1, 0, 1}, {1, 10, 1}, {1, MIN, 1}, {1, MAX, 1},
            {1, 1, 0}, {1, 1, 10}, {1, 1, MIN}, {1, 1, MAX}};
        for (int[] b : bad) {
            due("a bad one", x.shadow(b[0], b[1], b[2]), BAD);
        }
        due("none yet", x.many(0), 0);
        for (int p = 0; p < 6; p++) {
            due("number", x.shadow(1 + p % 5, 9 - p, 1 + p), p);
        }
        due("a seventh", x.shadow(1, 1, 1), FULL);
        for (int[] b : bad) {
            due("a bad seventh", x.shadow(b[0], b[1], b[2]), BAD);
        }
        due("six", x.many(0), 6);
        for (int p = 0; p < 6; p++) {
            due("kind", x.shadowOf(p, 0), 1 + p % 5);
            due("quick", x.shadowOf(p, 1), 9 - p);
            due("tall", x.shadowOf(p, 2), 1 + p);
            due("learnt", x.learnt(p), 0);
            due("quarrels", x.quarrels(p), 0);
        }
        // One that comes where another was before again() has nothing of it.
        x = narrow();
        x.keep();
        x.shadow(2, 9, 9);
        x.quarrel(0, 2, 1);
        pass(x, 6);
        x.again();
        due("a new third", x.shadow(2, 9, 9), 2);
        due("its quarrels", x.quarrels(2), 0);
        due("its points", x.points(2, 0), 0);
        due("its lessons", x.learnt(2), 0);
    }

    private static void shadowOf() {
        promise = 3;
        ShadowSchool x = ofEach(5, 3);
        x.dusk(16);
        int[][] pace = {
            {5, 5, 5, 0, 5, 5, 5, 0, 5, 5, 5, 0, 5, 5, 5, 0, 5},
            {10, 10, 10, 10, 10, 10, 0, 10, 10, 10, 10, 10, 10, 10, 10, 10, 10},
            {11, 11, 11, 11, 11, 11, 1, 11, 11, 11, 11, 11, 11, 11, 11, 11, 11},
            {3, 3, 3, 3, 3, 3, 3, 3, 3, 3, 3, 3, 3, 3, 3, 3, 3},
            {3, 4, 5, 6, 3, 4, 5, 6, 3, 4, 5, 6, 3, 4, 5, 6, 3}};
        int[][] length = {
            {18, 15, 12, 9, 6, 3, 0, 3, 6, 9, 12, 15, 18, 21, 24, 27, 30},
            {18, 15, 12, 9, 6, 3, 0, 3, 6, 9, 12, 15, 18, 21, 24, 27, 30},
            {16, 13, 10, 7, 4, 1, 0, 1, 4, 7, 10, 13, 16, 19, 22, 25, 28},
            {21, 18, 15, 12, 9, 6, 3, 0, 3, 6, 9, 12, 15, 18, 21, 24, 27},
            {24, 21, 18, 15, 12, 9, 6, 3, 6, 9, 12, 15, 18, 21, 24, 27, 30}};
        for (int h = 0; h <= 16; h++) {
            for (int p = 0; p < 5; p++) {
                due("pace of " + p + " in " + h, x.shadowOf(p, 4), pace[p][h]);
                due("length of " + p + " in " + h, x.shadowOf(p, 6), length[p][h]);
                due("choice of " + p + " in " + h, x.shadowOf(p, 5), 8);
            }
            x.hour();
        }
        x.change(2, 2, 1);
        x.anew();
        pass(x, 5);
        due("length is 0 at least", x.shadowOf(2, 6), 0);
        // CHOICE as if nobody sat; it keeps to hours, needs and what is learnt.
        x = narrow();
        due("first choice", x.shadowOf(1, 5), 0);
        pass(x, 2);
        due("learnt one", x.shadowOf(0, 3), 1);
        due("second choice", x.shadowOf(0, 5), 1);
        due("still the first", x.shadowOf(1, 5), 0);
        pass(x, 10);
        due("learnt both", x.shadowOf(0, 3), 2);
        due("no choice", x.shadowOf(0, 5), 8);
        x = new ShadowSchool();
        x.shadow(4, 1, 1);
        x.lesson(20, -1, 1, 2, 1);
        int[] choices = {8, 0, 0, 8};
        for (int h = 0; h < 4; h++) {
            due("choice by hours " + h, x.shadowOf(0, 5), choices[h]);
            x.hour();
        }
        due("kind", x.shadowOf(0, 0), 4);
        for (int b : new int[] {-1, 1, MIN, MAX}) {
            due("no such shadow", x.shadowOf(b, 0), BAD);
        }
        for (int b : new int[] {-1, 7, MIN, MAX}) {
            due("no such what", x.shadowOf(0, b), BAD);
        }
    }

    private static void change() {
        promise = 4;
        ShadowSchool x = narrow();
        due("quick was", x.change(0, 1, 9), 3);
        due("quick was then", x.change(0, 1, 1), 9);
        due("tall was", x.change(0, 2, 9), 4);
        due("quick", x.shadowOf(0, 1), 1);
        due("tall", x.shadowOf(0, 2), 9);
        due("of the other", x.shadowOf(1, 1), 2);
        for (int b : new int[] {-1, 2, MIN, MAX}) {
            due("no such shadow", x.change(b, 1, 5), BAD);
        }
        for (int b : new int[] {0, 3, -1, MIN, MAX}) {
            due("no such what", x.change(0, b, 5), BAD);
        }
        for (int b : new int[] {0, 10, -1, MIN, MAX}) {
            due("bad quick", x.change(0, 1, b), BAD);
            due("bad tall", x.change(0, 2, b), BAD);
        }
        due("quick stays", x.shadowOf(0, 1), 1);
        due("tall stays", x.shadowOf(0, 2), 9);
    }

    private static void remake() {
        promise = 5;
        ShadowSchool x = narrow();
        x.quarrel(0, 1, 1);
        x.hour();
        due("was", x.remake(0, 5), 1);
        due("was then", x.remake(0, 3), 5);
        due("kind", x.shadowOf(0, 0), 3);
        due("pace", x.shadowOf(0, 4), 7);
        due("points stay", x.points(0, 0), 3);
        due("quarrels stay", x.quarrels(0), 2);
        for (int b : new int[] {-1, 2, MIN, MAX}) {
            due("no such shadow", x.remake(b, 1), BAD);
        }
        for (int b : new int[] {-1, 0, 6, MIN, MAX}) {
            due("no such kind", x.remake(0, b), BAD);
        }
        due("kind stays", x.shadowOf(0, 0), 3);
        for (int kind = 5; kind >= 1; kind--) {
            due("each kind", x.remake(1, kind), kind == 5 ? 1 : kind + 1);
        }
    }

    private static void lesson() {
        promise = 6;
        ShadowSchool x = new ShadowSchool();
        int[][] bad = {{0, -1, 0, 0, 1}, {21, -1, 0, 0, 1}, {MIN, -1, 0, 0, 1}, {MAX, -1, 0, 0, 1}, {1, -2, 0, 0, 1},
            {1, 8, 0, 0, 1}, {1, MIN, 0, 0, 1}, {1, MAX, 0, 0, 1}, {1, -1, -1, 0, 1}, {1, -1, 16, 16, 1},
            {1, -1, 1, 0, 1}, {1, -1, 0, 16, 1}, {1, -1, MIN, 0, 1}, {1, -1, 0, MAX, 1}, {1, -1, MAX, MIN, 1},
            {1, -1, 0, 0, 0}, {1, -1, 0, 0, 7}, {1, -1, 0, 0, MIN}, {1, -1, 0, 0, MAX}};
        for (int[] b : bad) {
            due("a bad one", x.lesson(b[0], b[1], b[2], b[3], b[4]), BAD);
        }
        due("it needs itself", x.lesson(1, 0, 0, 0, 1), BAD);
        for (int l = 0; l < 8; l++) {
            due("number", x.lesson(20 - l, l - 1, l, 15, 1 + l % 6), l);
        }
        due("a ninth", x.lesson(1, 7, 15, 15, 6), FULL);
        for (int[] b : bad) {
            due("a bad ninth", x.lesson(b[0], b[1], b[2], b[3], b[4]), BAD);
        }
        due("eight", x.many(2), 8);
    }

    private static void lessonOf() {
        promise = 7;
        ShadowSchool x = narrow();
        x.lesson(20, 1, 3, 9, 4);
        int[] want = {20, 1, 3, 9, 4, 0};
        for (int what = 0; what <= 5; what++) {
            due("what " + what, x.lessonOf(2, what), want[what]);
        }
        due("no need", x.lessonOf(0, 1), -1);
        pass(x, 2);
        due("one has learnt it", x.lessonOf(0, 5), 1);
        pass(x, 4);
        due("two have", x.lessonOf(0, 5), 2);
        for (int b : new int[] {-1, 3, MIN, MAX}) {
            due("no such lesson", x.lessonOf(b, 0), BAD);
        }
        for (int b : new int[] {-1, 6, MIN, MAX}) {
            due("no such what", x.lessonOf(0, b), BAD);
        }
    }

    private static void points() {
        promise = 8;
        ShadowSchool x = narrow();
        x.change(0, 1, 4);
        due("at first", x.points(0, 0), 0);
        x.hour();
        due("by pace", x.points(0, 0), 4);
        due("who had no place", x.points(1, 0), 0);
        x.hour();
        due("more than hard", x.points(0, 0), 8);
        due("in another", x.points(0, 1), 0);
        for (int b : new int[] {-1, 2, MIN, MAX}) {
            due("no such shadow", x.points(b, 0), BAD);
            due("no such lesson", x.points(0, b), BAD);
        }
    }

    private static void dusk() {
        promise = 9;
        ShadowSchool x = narrow();
        due("was", x.dusk(16), 12);
        due("was then", x.dusk(1), 16);
        for (int b : new int[] {0, 17, -1, MIN, MAX}) {
            due("bad", x.dusk(b), BAD);
        }
        due("stays", x.state(1), 1);
        x.dusk(9);
        pass(x, 5);
        due("below hour", x.dusk(4), STATE);
        due("bad ahead of state", x.dusk(0), BAD);
        due("stays then", x.state(1), 9);
        due("it is hour", x.dusk(5), 9);
        due("over", x.state(3), 1);
        due("later again", x.dusk(6), 5);
        due("not over", x.state(3), 0);
    }

    private static void anew() {
        promise = 10;
        ShadowSchool x = narrow();
        x.dusk(10);
        pass(x, 7);
        due("what was learnt", x.learnt(0), 3);
        due("hour was", x.anew(), 7);
        due("hour", x.state(0), 0);
        due("score", x.state(2), 0);
        due("dusk", x.state(1), 10);
        due("points", x.points(0, 0), 0);
        due("learnt", x.learnt(0), 0);
        due("learnt by the other", x.learnt(1), 0);
        due("shadows", x.many(0), 2);
        due("lessons", x.many(2), 2);
        due("once more", x.anew(), 0);
    }

    private static void state() {
        promise = 11;
        ShadowSchool x = narrow();
        x.dusk(3);
        pass(x, 2);
        int[] want = {2, 3, 6, 0};
        for (int what = 0; what <= 3; what++) {
            due("what " + what, x.state(what), want[what]);
        }
        x.hour();
        due("hour", x.state(0), 3);
        due("over", x.state(3), 1);
        for (int b : new int[] {-1, 4, MIN, MAX}) {
            due("no such what", x.state(b), BAD);
        }
    }

    private static void feed() {
        promise = 12;
        ShadowSchool x = new ShadowSchool();
        for (int b : new int[] {0, 9, -1, MIN, MAX}) {
            due("bad n", x.feed(0, b), BAD);
        }
        due("three", x.feed(-1L, 3), 3);
        due("eight more", x.feed(-1L, 8), 11);
        due("many", x.many(5), 11);
        x.rules();
        for (int k = 1; k <= 24; k++) {
            due("eights", x.feed(0x2020202020202020L, 8), 8 * k);
        }
        due("seven", x.feed(0x2020202020202020L, 7), 199);
        due("too many", x.feed(0x2020L, 2), FULL);
        due("bad ahead of full", x.feed(0x2020L, 9), BAD);
        due("the last", x.feed(0x20L, 1), 200);
        due("one more", x.feed(0x20L, 1), FULL);
        due("still", x.many(5), 200);
        due("they were blanks", x.rules(), 0);
        // The lowest byte first, and of the long only so many.
        x.feed('s' | 'l' << 8 | 'o' << 16 | (long) 'w' << 24 | (long) '?' << 32, 4);
        x.feed(' ' | 'p' << 8 | 'l' << 16 | (long) 'a' << 24 | (long) 'y' << 32 | (long) ';' << 40, 6);
        due("slow play;", x.rules(), 1);
        x.feed(' ' | 255L << 56, 8);
        due("a byte 0", x.rules(), -101);
    }

    private static void rules() {
        promise = 13;
        ShadowSchool x = new ShadowSchool();
        due("an empty text", x.rules(), 0);
        due("one", read(x, "shadow last;"), 1);
        due("many", x.many(1), 1);
        due("in place of all", read(x, "joined easy;slow play;gifted last;"), 3);
        due("many then", x.many(1), 3);
        due("a fault", read(x, "joined easy"), -111);
        due("they stay", x.many(1), 3);
        due("the tape is used up", x.many(5), 0);
        due("eight", read(x, "slow last;".repeat(8) + "  "), 8);
        due("none", read(x, "   "), 0);
        due("none now", x.many(1), 0);
        due("close together", read(x, "slow if(hour<5and not(tall>0001))or 9=number last;"), 1);
        due("a number and a name", read(x, "slow if 1<2last;"), 1);
        due("three within", read(x, "slow if (((1=1))) play;"), 1);
        due("beside one another", read(x, "slow if (1=1) and (1=1) and (1=1) and ((1=1)) play;"), 1);
        due("not not", read(x, "slow if not not not ( not 1 = 1 ) play;"), 1);
        fault(";", 0);
        fault(" Slow last;", 1);
        fault("slo", 0);
        fault("slows last;", 0);
        fault("slow", 4);
        fault("slow  ", 6);
        fault("slow slow;", 5);
        fault("slow lasts;", 5);
        fault("slow last", 9);
        fault("slow last last;", 10);
        fault("slow last;;", 10);
        fault("slow last; slow", 15);
        fault("slow last; hour", 11);
        fault("slow 12 last;", 5);
        fault("slow if last;", 8);
        fault("slow if", 7);
        fault("slow if not last;", 12);
        fault("slow if hour last;", 13);
        fault("slow if hour < last;", 15);
        fault("slow if hour < 1;", 16);
        fault("slow if hour < 1", 16);
        fault("slow if hour < 12345 last;", 15);
        fault("slow if 00000 < 1 last;", 8);
        fault("slow if hour << 1 last;", 14);
        fault("slow if hour ! 1 last;", 13);
        fault("slow if hour < 1 not hour < 2 last;", 17);
        fault("slow if hour < 1 and last;", 21);
        fault("slow if hour < 1 or or hour < 1 last;", 20);
        fault("slow if (hour < 1 last;", 18);
        fault("slow if (hour < 1", 17);
        fault("slow if hour < 1) last;", 16);
        fault("slow if () last;", 9);
        fault("slow if (hour) last;", 13);
        fault("slow if ((((1=1)))) last;", 11);
        fault("slow if ((((", 11);
        fault("slow if (1=1) (1=1) last;", 14);
        fault("slow if kind = 1 last;", 8);
        fault("slowz last;", 0);
        fault("slowa last;", 0);
        fault("slow`last;", 4);
        fault("slow{last;", 4);
        fault("clow last;", 0);
        fault("slot last;", 0);
        fault("slow if 1/2 last;", 9);
        fault("slow if 1:2 last;", 9);
        fault("slow if 1?2 last;", 9);
        fault(";".repeat(200), 0);
        fault("slow last;" + " ".repeat(189) + "s", 199);
        fault("slow if 1=1" + " and 1=1".repeat(23) + "     ", 200);
        fault("slow\tlast;", 4);
        fault("slow " + (char) 233 + "last;", 5);
        fault("slow last;".repeat(8) + " slow last;", 81);
        fault("slow last;".repeat(8) + ";", 80);
        fault("slow last;".repeat(8) + "?", 80);
    }

    /** Which lesson a SHADOW of a KIND, QUICK 3, TALL 4, number 1, goes to behind some HOURS, by a text. */
    private static void goesTo(String text, int kind, int hours, int want) {
        ShadowSchool x = new ShadowSchool();
        x.shadow(1, 1, 1);
        x.shadow(kind, 3, 4);
        x.lesson(20, -1, 0, 15, 6);
        x.lesson(9, -1, 0, 15, 6);
        x.lesson(19, -1, 0, 15, 6);
        pass(x, hours);
        due("'" + text + "'", read(x, text) > 0 ? 1 : 0, 1);
        due("'" + text + "' for kind " + kind + " behind " + hours, x.shadowOf(1, 5), want);
    }

    private static void whatRulesDo() {
        goesTo("shadow last;", 1, 0, 2);
        goesTo("shadow easy;", 2, 0, 1);
        goesTo("shadow play;", 3, 0, 8);
        goesTo("gifted last;", 2, 0, 2);
        goesTo("gifted last;", 3, 0, 2);
        goesTo("gifted last;", 1, 0, 0);
        goesTo("gifted last;", 4, 0, 0);
        goesTo("coloured last;", 2, 0, 0);
        goesTo("slow last;", 5, 0, 2);
        goesTo("slow last;", 4, 0, 2);
        goesTo("borrowed last;", 4, 0, 0);
        goesTo("joined last;", 1, 0, 2);
        goesTo("joined play; shadow last;", 5, 0, 2);
        goesTo("shadow if 1 > 2 play; shadow easy; shadow last;", 5, 0, 1);
        goesTo("shadow if hour = 2 last;", 4, 2, 2);
        goesTo("shadow if hour = 2 last;", 4, 1, 0);
        goesTo("shadow if hour = 10 last;", 4, 10, 2);
        goesTo("shadow if quick = 3 last;", 4, 0, 2);
        goesTo("shadow if tall = 4 last;", 4, 0, 2);
        goesTo("shadow if number = 1 last;", 4, 0, 2);
        goesTo("shadow if learnt = 0 last;", 4, 0, 2);
        goesTo("shadow if learnt = 1 last;", 2, 4, 2);
        goesTo("shadow if learnt > 0 and quick < 4 last;", 2, 3, 0);
        goesTo("shadow if 2 < 1 last;", 1, 0, 0);
        goesTo("shadow if 2 < 2 last;", 1, 0, 0);
        goesTo("shadow if 2 > 2 last;", 1, 0, 0);
        goesTo("shadow if 3 > 2 last;", 1, 0, 2);
        goesTo("shadow if 9999 = 9999 last;", 1, 0, 2);
        goesTo("shadow if 0007 = 7 last;", 1, 0, 2);
        goesTo("shadow if not 1 = 1 last;", 1, 0, 0);
        goesTo("shadow if not not 1 = 1 last;", 1, 0, 2);
        goesTo("shadow if 1=1 or 1=2 and 1=2 last;", 1, 0, 2);
        goesTo("shadow if (1=1 or 1=2) and 1=2 last;", 1, 0, 0);
        goesTo("shadow if 1=2 and 1=2 or 1=1 last;", 1, 0, 2);
        goesTo("shadow if 1=2 and (1=2 or 1=1) last;", 1, 0, 0);
        goesTo("shadow if not 1=2 and 1=2 last;", 1, 0, 0);
        goesTo("shadow if not (1=2 and 1=2) last;", 1, 0, 2);
        goesTo("shadow if not 1=1 or 1=1 last;", 1, 0, 2);
        goesTo("shadow if not (1=1 or 1=1) last;", 1, 0, 0);
        goesTo("shadow if 1=2 or 1=2 or 1=1 and 1=1 last;", 1, 0, 2);
        goesTo("shadow if 1=1 or 1=2 or 1=2 last;", 1, 0, 2);
        goesTo("shadow if 1=2 and 1=1 and 1=1 last;", 1, 0, 0);
        goesTo("slow if 1=1" + "or 1=2".repeat(30) + " last;", 4, 0, 2);
        goesTo("slow if 1=1" + "and1=1".repeat(30) + "last;", 4, 0, 2);
        goesTo("slow if 1=1" + "and1=1".repeat(29) + "and1=2last;", 4, 0, 0);
        goesTo("slow if " + "1=2or".repeat(36) + "1=1last; ", 4, 0, 2);
        goesTo("slow if 1=1or" + "1=2or".repeat(35) + "1=2last; ", 4, 0, 2);
        goesTo("slow if" + " not".repeat(45) + " 1=1 last;", 4, 0, 0);
        goesTo("slow if" + " not".repeat(44) + " 1=1 last;", 4, 0, 2);
        String within = "1=1 and (1=2 or 1=1 and (1=2 or 1=1 and (1=2 or 1=1 and 1=1)))";
        goesTo("slow if 1=2 or " + within + " last;", 4, 0, 2);
        goesTo("slow if 1=2 or " + within.replace("1=1)", "1=2)") + " last;", 4, 0, 0);
        goesTo("shadow if 1=1 and (1=2 or 1=1 and (1=2 or not (1=2))) last;", 1, 0, 2);
        // Of lessons that lack as much the least; less is lacked by what one has.
        ShadowSchool x = new ShadowSchool();
        x.shadow(1, 2, 1);
        x.lesson(6, -1, 0, 15, 1);
        x.lesson(5, -1, 1, 15, 1);
        x.lesson(4, -1, 2, 15, 1);
        read(x, "shadow easy;");
        x.hour();
        due("easy: lacks 4 of 6", x.shadowOf(0, 5), 0);
        x.change(0, 1, 1);
        x.anew();
        pass(x, 2);
        due("easy: of 5 and 5 the least", x.points(0, 0), 2);
        due("easy: of 4, 5 and 4 the least", x.shadowOf(0, 5), 0);
        x = new ShadowSchool();
        x.shadow(1, 1, 1);
        x.shadow(4, 2, 1);
        x.lesson(20, -1, 0, 15, 6);
        read(x, "slow easy;");
        due("easy: the only one", x.shadowOf(1, 5), 0);
        x.lesson(18, 0, 0, 15, 6);
        x.lesson(19, -1, 0, 0, 6);
        x.lesson(17, -1, 1, 15, 6);
        due("easy: 20 and 19", x.shadowOf(1, 5), 2);
        x.rules();
        pass(x, 2);
        read(x, "slow easy;");
        due("easy: 16 and 17", x.shadowOf(1, 5), 0);
        due("easy: of the other as ever", x.shadowOf(0, 5), 0);
        // Texts read one after another leave nothing behind, with a fault or without.
        x = new ShadowSchool();
        x.shadow(1, 1, 1);
        x.lesson(1, -1, 0, 15, 1);
        for (int k = 0; k < 9; k++) {
            due("a long one", read(x, "joined if " + "1=2or".repeat(35) + "1=2play;"), 1);
            due("it doesn't hold", x.shadowOf(0, 5), 0);
            due("a long one that ends", read(x, "joined if " + "1=1or".repeat(35) + "1=1play"), -292);
        }
        due("a short one", read(x, "joined if 3=3 play;"), 1);
        due("it holds", x.shadowOf(0, 5), 8);
        due("another", read(x, "joined if 3=4 play;"), 1);
        due("it doesn't hold either", x.shadowOf(0, 5), 0);
        // By last there must be a place, too.
        x = new ShadowSchool();
        x.shadow(1, 1, 1);
        x.shadow(1, 1, 1);
        x.lesson(9, -1, 0, 15, 1);
        x.lesson(9, -1, 0, 15, 1);
        read(x, "shadow last;");
        x.hour();
        due("the first sits last", x.points(0, 1), 1);
        due("the second where there is place", x.points(1, 0), 1);
    }

    private static void hour() {
        promise = 14;
        ShadowSchool x = narrow();
        // HOUR 3 gives joined ones nothing.
        int[] worth = {0, 6, 0, 0, 4, 6, 0};
        int[] byFirst = {3, 6, 6, 6, 6, 6, 6};
        int[] bySecond = {0, 0, 2, 2, 4, 6, 6};
        for (int h = 0; h < 7; h++) {
            due("worth of " + h, x.hour(), worth[h]);
            due("points of 0 behind " + h, x.points(0, 0), byFirst[h]);
            due("points of 1 behind " + h, x.points(1, 0), bySecond[h]);
        }
        due("score", x.state(2), 16);
        due("hour", x.state(0), 7);
        // The last of all shadows in the last of all lessons.
        x = new ShadowSchool();
        for (int p = 0; p < 6; p++) {
            x.shadow(2, 1, 1);
        }
        for (int l = 0; l < 8; l++) {
            x.lesson(2, -1, 0, 15, l < 5 ? 1 : 2);
        }
        read(x, "shadow if number = 5 last;");
        due("all six", x.hour(), 12);
        due("the last", x.learnt(5), 128);
        due("its points", x.points(5, 7), 2);
        due("one has learnt it", x.lessonOf(7, 5), 1);
        x.prove(0);
        due("some have learnt it", x.taught(0, 128), 0);
        // Two that learn the same lesson in an hour, and another.
        x = new ShadowSchool();
        x.dusk(1);
        x.shadow(1, 5, 1);
        x.shadow(2, 3, 1);
        x.shadow(3, 3, 1);
        x.lesson(5, -1, 0, 0, 2);
        x.lesson(7, -1, 0, 0, 6);
        due("worth together", x.hour(), 17);
        due("over", x.hour(), STATE);
        due("hour stays", x.state(0), 1);
        due("score stays", x.state(2), 17);
    }

    private static void learnt() {
        promise = 15;
        ShadowSchool x = narrow();
        due("at first", x.learnt(0), 0);
        pass(x, 2);
        due("one", x.learnt(0), 1);
        pass(x, 3);
        due("two", x.learnt(0), 3);
        due("the other", x.learnt(1), 0);
        for (int b : new int[] {-1, 2, MIN, MAX}) {
            due("no such shadow", x.learnt(b), BAD);
        }
    }

    private static void on() {
        promise = 16;
        ShadowSchool x = narrow();
        int[] want = {0, 0, 6, 6, 6, 10, 16, 16, 16, 20};
        for (int n = 0; n < 10; n++) {
            due("on " + n, x.on(n), want[n]);
        }
        due("all", x.on(16), 20);
        due("hour stays", x.state(0), 0);
        x.dusk(5);
        due("till dusk", x.on(16), 10);
        x.hour();
        due("from 1", x.on(1), 6);
        pass(x, 4);
        due("over", x.on(16), 0);
        for (int b : new int[] {-1, 17, MIN, MAX}) {
            due("bad n", x.on(b), BAD);
        }
    }

    private static void when() {
        promise = 17;
        ShadowSchool x = narrow();
        due("first", x.when(0, 0), 1);
        due("then", x.when(0, 1), 4);
        due("the other", x.when(1, 0), 5);
        due("the other then", x.when(1, 1), 8);
        x.dusk(8);
        due("not by dusk", x.when(1, 1), NONE);
        due("hour stays", x.state(0), 0);
        x.hour();
        due("it is an hour, not how many", x.when(0, 0), 1);
        x.hour();
        due("by now", x.when(0, 0), NONE);
        for (int b : new int[] {-1, 2, MIN, MAX}) {
            due("no such shadow", x.when(b, 0), BAD);
            due("no such lesson", x.when(0, b), BAD);
        }
    }

    /** SHADOW 0 (slow, QUICK 3) learns the one LESSON of 20 in HOURS 6 to 15, in the last of them, if none sits ahead. */
    private static ShadowSchool toTheLast() {
        ShadowSchool x = new ShadowSchool();
        x.dusk(16);
        x.shadow(4, 3, 1);
        x.shadow(4, 1, 1);
        x.lesson(20, -1, 6, 15, 1);
        return x;
    }

    private static void letGo() {
        promise = 18;
        ShadowSchool x = narrow();
        due("both", x.letGo(), 3);
        x.dusk(8);
        due("one", x.letGo(), 1);
        x.dusk(4);
        due("none", x.letGo(), 0);
        x.dusk(5);
        pass(x, 5);
        due("by now", x.letGo(), 1);
        x = toTheLast();
        due("in the last hour", x.letGo(), 1);
        x = new ShadowSchool();
        due("nobody", x.letGo(), 0);
        x.shadow(1, 1, 1);
        x.shadow(1, 1, 1);
        due("no lessons", x.letGo(), 3);
    }

    private static void crowd() {
        promise = 19;
        ShadowSchool x = new ShadowSchool();
        x.shadow(1, 2, 1);
        x.shadow(1, 1, 1);
        x.shadow(1, 1, 1);
        x.lesson(4, -1, 0, 9, 1);
        x.lesson(9, -1, 1, 9, 6);
        x.lesson(9, -1, 15, 15, 6);
        due("one place", x.crowd(0), 0);
        due("two in it", x.crowd(1), 1);
        due("nobody ever", x.crowd(2), 0);
        x.hour();
        due("nobody from 1", x.crowd(2), 1);
        due("hour stays", x.state(0), 1);
        x.dusk(1);
        due("over", x.crowd(0), NONE);
        for (int b : new int[] {-1, 3, MIN, MAX}) {
            due("no such lesson", x.crowd(b), BAD);
        }
        // The room's places count, not who would like to sit.
        x = new ShadowSchool();
        x.shadow(1, 3, 1);
        x.shadow(1, 1, 1);
        x.lesson(3, -1, 0, 9, 1);
        x.lesson(9, 0, 0, 9, 6);
        due("later more", x.crowd(1), 1);
        x.lesson(9, -1, 0, 0, 6);
        due("another", x.crowd(2), 0);
    }

    private static void quickFor() {
        promise = 20;
        ShadowSchool x = new ShadowSchool();
        x.dusk(2);
        x.shadow(1, 1, 1);
        x.shadow(4, 9, 9);
        x.lesson(7, -1, 0, 15, 1);
        due("4 twice", x.quickFor(0), 4);
        due("it counts nothing", x.quickFor(1), 1);
        due("quick stays", x.shadowOf(0, 1), 1);
        due("hour stays", x.state(0), 0);
        pass(x, 2);
        due("over", x.quickFor(0), 1);
        for (int b : new int[] {-1, 2, MIN, MAX}) {
            due("no such shadow", x.quickFor(b), BAD);
        }
        x = new ShadowSchool();
        x.dusk(1);
        x.shadow(2, 1, 1);
        x.lesson(18, -1, 0, 15, 1);
        due("9", x.quickFor(0), 9);
        read(x, "shadow if quick > 8 play;");
        due("9 plays", x.quickFor(0), 1);
        due("in the last hour", toTheLast().quickFor(0), 2);
        x = new ShadowSchool();
        x.dusk(1);
        x.shadow(1, 5, 1);
        x.lesson(10, -1, 0, 0, 1);
        due("10 would do", x.quickFor(0), 1);
    }

    private static void letGoBy() {
        promise = 21;
        ShadowSchool x = new ShadowSchool();
        x.dusk(3);
        x.shadow(1, 1, 1);
        x.shadow(4, 9, 9);
        x.lesson(7, -1, 0, 15, 2);
        x.lesson(3, 0, 0, 15, 2);
        due("4, 8, and 4", x.letGoBy(0), 4);
        due("slow: 4, 8, and 4", x.letGoBy(1), 6);
        due("quick stays", x.shadowOf(0, 1), 1);
        x.dusk(1);
        due("never", x.letGoBy(0), NONE);
        due("quick stays then", x.shadowOf(0, 1), 1);
        for (int b : new int[] {-1, 2, MIN, MAX}) {
            due("no such shadow", x.letGoBy(b), BAD);
        }
        due("in the last hour", toTheLast().letGoBy(0), 2);
        x = new ShadowSchool();
        x.dusk(1);
        x.shadow(1, 5, 1);
        due("no lessons", x.letGoBy(0), 1);
        x.lesson(9, -1, 0, 0, 1);
        due("9", x.letGoBy(0), 9);
        x.change(0, 1, 1);
        x.lesson(1, -1, 1, 1, 1);
        due("behind dusk", x.letGoBy(0), NONE);
        x = new ShadowSchool();
        x.dusk(1);
        x.shadow(1, 5, 1);
        x.lesson(10, -1, 0, 0, 1);
        due("10 would do", x.letGoBy(0), NONE);
    }

    private static void roomFor() {
        promise = 22;
        ShadowSchool x = new ShadowSchool();
        x.dusk(1);
        for (int p = 0; p < 6; p++) {
            x.shadow(1, p < 4 ? 5 : 1, 1);
        }
        x.lesson(5, -1, 0, 15, 6);
        x.lesson(9, -1, 9, 15, 3);
        due("four learn it", x.roomFor(0), 4);
        due("nobody learns it", x.roomFor(1), 1);
        due("room stays", x.lessonOf(0, 4), 6);
        due("the other stays", x.lessonOf(1, 4), 3);
        x.change(4, 1, 5);
        x.change(5, 1, 5);
        due("all six", x.roomFor(0), 6);
        x.hour();
        due("over", x.roomFor(0), 1);
        for (int b : new int[] {-1, 2, MIN, MAX}) {
            due("no such lesson", x.roomFor(b), BAD);
        }
    }

    private static void quarrel() {
        promise = 23;
        ShadowSchool x = ofEach(1, 1);
        due("was", x.quarrel(1, 3, 1), 0);
        due("was then", x.quarrel(3, 1, 1), 1);
        due("of one", x.quarrels(1), 8);
        due("of the other", x.quarrels(3), 2);
        due("was 1", x.quarrel(3, 1, 0), 1);
        due("was 0", x.quarrel(1, 3, 0), 0);
        due("no more", x.quarrels(1) + x.quarrels(3), 0);
        for (int b : new int[] {-1, 5, MIN, MAX}) {
            due("no such shadow", x.quarrel(b, 0, 1), BAD);
            due("no such other", x.quarrel(0, b, 1), BAD);
        }
        for (int b : new int[] {-1, 2, MIN, MAX}) {
            due("no such v", x.quarrel(0, 1, b), BAD);
        }
        due("one and the same", x.quarrel(2, 2, 1), BAD);
        due("one and the same, 0", x.quarrel(2, 2, 0), BAD);
        due("pairs", x.many(7), 0);
    }

    private static void quarrels() {
        promise = 24;
        ShadowSchool x = ofEach(1, 1);
        x.quarrel(0, 4, 1);
        x.quarrel(2, 0, 1);
        due("two", x.quarrels(0), 20);
        due("one", x.quarrels(4), 1);
        due("none", x.quarrels(1), 0);
        for (int b : new int[] {-1, 5, MIN, MAX}) {
            due("no such shadow", x.quarrels(b), BAD);
        }
    }

    private static void rooms() {
        promise = 25;
        ShadowSchool x = new ShadowSchool();
        due("nobody", x.rooms(), 0);
        for (int p = 0; p < 6; p++) {
            x.shadow(1, 1, 1);
        }
        due("peace", x.rooms(), 1);
        for (int p = 0; p < 6; p++) {
            for (int q = 0; q < p; q++) {
                x.quarrel(p, q, 1);
            }
            due("all of the first " + (p + 1), x.rooms(), p + 1);
        }
        x.quarrel(0, 5, 0);
        due("but one pair", x.rooms(), 5);
        // A ring of five needs three.
        x = ofEach(1, 1);
        for (int p = 0; p < 5; p++) {
            x.quarrel(p, (p + 1) % 5, 1);
        }
        due("a ring", x.rooms(), 3);
    }

    private static void seat() {
        promise = 26;
        ShadowSchool x = ofEach(1, 1);
        for (int p = 0; p < 5; p++) {
            x.quarrel(p, (p + 1) % 5, 1);
        }
        int[] ring = {0, 1, 0, 1, 2};
        for (int p = 0; p < 5; p++) {
            due("ring " + p, x.seat(p), ring[p]);
        }
        // Two rooms do, if 1 does not take the least room that it could.
        x = new ShadowSchool();
        for (int p = 0; p < 4; p++) {
            x.shadow(1, 1, 1);
        }
        x.quarrel(0, 2, 1);
        x.quarrel(2, 3, 1);
        x.quarrel(3, 1, 1);
        int[] path = {0, 1, 1, 0};
        for (int p = 0; p < 4; p++) {
            due("path " + p, x.seat(p), path[p]);
        }
        for (int b : new int[] {-1, 4, MIN, MAX}) {
            due("no such shadow", x.seat(b), BAD);
        }
    }

    private static void seatings() {
        promise = 27;
        ShadowSchool x = new ShadowSchool();
        due("nobody", x.seatings(4), 1);
        for (int p = 0; p < 6; p++) {
            x.shadow(1, 1, 1);
        }
        due("one room", x.seatings(1), 1);
        due("two", x.seatings(2), 64);
        due("four", x.seatings(4), 4096);
        x.quarrel(0, 5, 1);
        due("one pair, one room", x.seatings(1), 0);
        due("one pair, three", x.seatings(3), 486);
        for (int b : new int[] {0, 5, -1, MIN, MAX}) {
            due("bad n", x.seatings(b), BAD);
        }
        x = ofEach(1, 1);
        for (int p = 0; p < 5; p++) {
            x.quarrel(p, (p + 1) % 5, 1);
        }
        int[] ring = {0, 0, 30, 240};
        for (int n = 1; n <= 4; n++) {
            due("a ring in " + n, x.seatings(n), ring[n - 1]);
        }
    }

    private static void match() {
        promise = 28;
        ShadowSchool x = new ShadowSchool();
        bytes(x, 0, 7);
        due("nobody", x.match(0, 0, 0), 1);
        due("missing, nobody", x.match(1, 0, 0), -11);
        due("nobody, at the end", x.match(0, 1, 0), 1);
        for (int b : new int[] {-1, 2, 40, MIN, MAX}) {
            due("nobody, outside", x.match(0, b, 0), -12);
        }
        x.sheet(2, 0, 0);
        due("nobody, no items", x.match(2, 0, 0), 1);
        due("nobody, no items, outside", x.match(2, 1, 0), -12);
        x.sheet(2, 1, 0);
        due("nobody, shorts, outside", x.match(2, 1, 0), -13);
        due("nobody, missing, outside", x.match(1, 9, 0), -11);
        x.sheet(2, -1, 0);
        x.shadow(1, 1, 1);
        x.shadow(2, 1, 2);
        x.shadow(4, 1, 2);
        bytes(x, 0, 99, 6, 12, 14, -1);
        due("lengths 6, 12, 14", x.match(0, 1, 0), 1);
        due("2 away", x.match(0, 1, 2), 2);
        due("1 away", x.match(0, 1, 1), 1);
        due("6 away", x.match(0, 1, 6), 3);
        due("8 away", x.match(0, 1, 8), 6);
        due("99 away", x.match(0, 0, 99), 6);
        due("a negative one", x.match(0, 2, 12), 2);
        due("a negative one, 13 away", x.match(0, 2, 13), 4);
        x.hour();
        due("lengths 5, 10, 12", x.match(0, 1, 1), 0);
        due("lengths 5, 10, 12, 2 away", x.match(0, 1, 2), 1);
        due("outside behind", x.match(0, 3, 99), -12);
        due("outside ahead", x.match(0, -1, 99), -12);
        due("far outside", x.match(0, MAX, 99), -12);
        due("far ahead", x.match(0, MIN, 99), -12);
        due("missing", x.match(3, 9, 9), -11);
        x.sheet(3, 4, 9);
        due("booleans", x.match(3, 99, 9), -13);
        for (int b : new int[] {-1, 4, MIN, MAX}) {
            due("no such sheet", x.match(b, 0, 0), BAD);
        }
        for (int b : new int[] {-1, 100, MIN, MAX}) {
            due("no such slack", x.match(2, 0, b), BAD);
        }
    }

    /** Who is SENT OUT counts: 0 keeps the one place from 1, who would learn at once. */
    private static ShadowSchool plansFor() {
        ShadowSchool x = new ShadowSchool();
        x.shadow(1, 1, 1);
        x.shadow(2, 4, 1);
        x.lesson(8, -1, 0, 15, 1);
        x.lesson(5, 0, 0, 15, 1);
        return x;
    }

    private static void best() {
        promise = 29;
        ShadowSchool x = plansFor();
        int[] want = {0, 8, 13, 13, 13};
        for (int n = 0; n <= 4; n++) {
            due("best " + n, x.best(n), want[n]);
        }
        due("hour stays", x.state(0), 0);
        due("points stay", x.points(0, 0) + x.points(1, 0), 0);
        x.dusk(1);
        due("one hour", x.best(4), 8);
        x.hour();
        due("over", x.best(4), 0);
        for (int b : new int[] {-1, 5, MIN, MAX}) {
            due("bad n", x.best(b), BAD);
        }
    }

    private static void ith() {
        promise = 30;
        ShadowSchool x = plansFor();
        due("0 is sent out", x.ith(2, 0), 1);
        due("then nobody", x.ith(2, 1), 0);
        due("of one", x.ith(1, 0), 1);
        due("of none", x.ith(0, 0), NONE);
        due("not so many", x.ith(2, 2), NONE);
        due("the last", x.ith(4, 3), 0);
        x.dusk(3);
        due("till dusk", x.ith(4, 2), 0);
        due("behind dusk", x.ith(4, 3), NONE);
        for (int b : new int[] {-1, 5, MIN, MAX}) {
            due("bad n", x.ith(b, 0), BAD);
        }
        for (int b : new int[] {-1, 4, MIN, MAX}) {
            due("bad i", x.ith(4, b), BAD);
        }
    }

    private static void ways() {
        promise = 31;
        ShadowSchool x = plansFor();
        int[] want = {1, 1, 2, waysOfThree()};
        for (int n = 0; n <= 3; n++) {
            due("ways " + n, x.ways(n), want[n]);
        }
        x.dusk(1);
        due("one hour", x.ways(4), 1);
        x.hour();
        due("over", x.ways(4), 1);
        for (int b : new int[] {-1, 5, MIN, MAX}) {
            due("bad n", x.ways(b), BAD);
        }
        x = new ShadowSchool();
        for (int p = 0; p < 6; p++) {
            x.shadow(1, 1, 1);
        }
        due("all alike", x.ways(4), 2401);
    }

    /** Counted by wouldBe(), plan by plan. */
    private static int waysOfThree() {
        ShadowSchool x = plansFor();
        int most = -1;
        int count = 0;
        for (int code = 0; code < 27; code++) {
            bytes(x, 0, code / 9, code / 3 % 3, code % 3);
            int worth = x.wouldBe(0, 0, 3);
            count = worth > most ? 1 : worth == most ? count + 1 : count;
            most = Math.max(most, worth);
        }
        return count;
    }

    private static void taught() {
        promise = 32;
        ShadowSchool x = plansFor();
        due("none asked", x.taught(0, 0), 0);
        due("no hours", x.taught(0, 1), NONE);
        due("the first in one", x.taught(1, 1), 1);
        due("both in one", x.taught(1, 3), NONE);
        due("both in two", x.taught(2, 3), 1);
        due("the second alone", x.taught(2, 2), 1);
        x.change(0, 1, 5);
        due("0 in two", x.taught(2, 1), 0);
        due("both, 0 in three", x.taught(3, 3), 0);
        due("both in two still", x.taught(2, 3), 1);
        pass(x, 3);
        due("by now", x.taught(0, 3), 0);
        x.dusk(3);
        due("by now, over", x.taught(4, 3), 0);
        for (int b : new int[] {-1, 5, MIN, MAX}) {
            due("bad n", x.taught(b, 0), BAD);
        }
        for (int b : new int[] {-1, 4, 255, MIN, MAX}) {
            due("bad set", x.taught(1, b), BAD);
        }
        // 1 needs the one place in all four hours.
        x = new ShadowSchool();
        x.shadow(1, 1, 1);
        x.shadow(4, 9, 1);
        x.lesson(20, -1, 0, 15, 1);
        due("0 is sent out each time", x.taught(4, 1), 4);
        due("not in three", x.taught(3, 1), NONE);
    }

    private static void bars() {
        promise = 33;
        ShadowSchool x = plansFor();
        due("no hours", x.bars(0, 3), 0);
        due("no hours, the second", x.bars(0, 2), 1);
        due("one hour", x.bars(1, 3), 1);
        due("one hour, the first", x.bars(1, 1), NONE);
        due("two hours", x.bars(2, 3), NONE);
        due("four hours", x.bars(4, 3), NONE);
        due("no hours again", x.bars(0, 3), 0);
        due("none asked", x.bars(0, 0), NONE);
        for (int b : new int[] {-1, 5, MIN, MAX}) {
            due("bad n", x.bars(b, 0), BAD);
        }
        for (int b : new int[] {-1, 4, 255, MIN, MAX}) {
            due("bad set", x.bars(1, b), BAD);
        }
        // Each alone can be learnt, if not both together: no bar.
        x = new ShadowSchool();
        x.shadow(1, 1, 1);
        x.shadow(1, 4, 1);
        x.lesson(4, -1, 0, 0, 1);
        x.lesson(2, -1, 0, 0, 1);
        due("together never", x.taught(1, 3), NONE);
        due("each alone", x.bars(1, 3), NONE);
    }

    /** VALUE of a GAME, behind some ACTS on SHEET 0, by wouldBe(); two SHADOWS. */
    private static int valueBehind(ShadowSchool x, int done, int n) {
        if (done == n) {
            return x.wouldBe(0, 0, n);
        }
        int value = -1;
        for (int a = 0; a <= 2; a++) {
            x.write(0, done, a);
            int v = valueBehind(x, done + 1, n);
            boolean isBetter = done % 2 == 0 ? v > value : v < value;
            value = value < 0 || isBetter ? v : value;
        }
        return value;
    }

    private static void game() {
        promise = 34;
        ShadowSchool x = plansFor();
        due("one", x.game(1), 8);
        due("two: the other sends 1 out", x.game(2), 8);
        due("three: it is sent out, and comes back", x.game(3), 13);
        x.dusk(2);
        due("till dusk", x.game(4), 8);
        due("hour stays", x.state(0), 0);
        pass(x, 2);
        due("over", x.game(4), 0);
        for (int quick = 1; quick <= 9; quick++) {
            x = narrow();
            x.remake(0, 2);
            x.remake(1, 5);
            x.change(1, 1, quick);
            x.lesson(3, -1, 1, 3, 1);
            for (int n = 1; n <= 4; n++) {
                x.sheet(0, 0, 4);
                int want = valueBehind(x, 0, n);
                due("game of " + n + " with quick " + quick, x.game(n), want);
            }
        }
        for (int b : new int[] {0, 5, -1, MIN, MAX}) {
            due("bad n", x.game(b), BAD);
        }
    }

    private static void play() {
        promise = 35;
        ShadowSchool x = plansFor();
        due("one", x.play(1), 1);
        due("two", x.play(2), 1);
        for (int n = 1; n <= 4; n++) {
            // One object for each, as it is good for 512 calls alone.
            x = plansFor();
            x.sheet(0, 0, 4);
            int value = valueBehind(x, 0, n);
            int least = 0;
            for (int a = 2; a >= 0; a--) {
                x.write(0, 0, a);
                least = valueBehind(x, 1, n) == value ? a : least;
            }
            due("of " + n, x.play(n), least);
        }
        x.change(1, 1, 1);
        due("none is worth more", x.play(1), 0);
        x.dusk(1);
        x.hour();
        due("over", x.play(1), NONE);
        for (int b : new int[] {0, 5, -1, MIN, MAX}) {
            due("bad n", x.play(b), BAD);
        }
    }

    private static void report() {
        promise = 36;
        ShadowSchool x = new ShadowSchool();
        int[][] bad = {{0, 1, 0, 0}, {6, 1, 0, 0}, {MIN, 1, 0, 0}, {MAX, 1, 0, 0}, {1, 0, 0, 0}, {1, 10, 0, 0},
            {1, MIN, 0, 0}, {1, MAX, 0, 0}, {1, 1, -1, 0}, {1, 1, 1, 0}, {1, 1, 0, 1000}, {1, 1, 1000, 1000},
            {1, 1, MIN, 0}, {1, 1, 0, MAX}, {1, 1, MAX, MIN}, {1, 1, 0, MIN}};
        for (int[] b : bad) {
            due("a bad one", x.report(b[0], b[1], b[2], b[3]), BAD);
        }
        for (int r = 0; r < 6; r++) {
            due("number", x.report(1 + r % 5, 9 - r, 999 - r, 999), r);
        }
        due("a seventh", x.report(1, 1, 0, 0), FULL);
        for (int[] b : bad) {
            due("a bad seventh", x.report(b[0], b[1], b[2], b[3]), BAD);
        }
        due("many", x.many(3), 6);
    }

    private static void forget() {
        promise = 37;
        ShadowSchool x = new ShadowSchool();
        due("none", x.forget(), 0);
        x.report(1, 1, 500, 500);
        x.report(1, 1, 500, 500);
        due("two", x.forget(), 2);
        due("many", x.many(3), 0);
        due("all fit", x.span(0), 80);
        due("from 0 again", x.report(1, 1, 0, 0), 0);
    }

    private static void span() {
        promise = 38;
        ShadowSchool x = new ShadowSchool();
        due("all", x.span(0), 80);
        due("the first hour", x.span(1), 0);
        due("the first slant", x.span(2), 1);
        x.report(1, 1, 10, 10);
        // 5 * 2 in 1 and 11, 2 * 5 in 4 and 8; 10 * 1 would be 16.
        due("how many", x.span(0), 4);
        due("hour", x.span(1), 1);
        due("slant", x.span(2), 2);
        x.report(4, 1, 6, 15);
        // slow: 6 * 2 in 1, 4 * 2 in 11, 3 * 5 in 4, 1 * 5 in 8.
        due("how many by two", x.span(0), 3);
        x.report(5, 1, 0, 31);
        // borrowed: (6 + 3) * 2, (4 + 3) * 2, (3 + 3) * 5.
        due("how many by three", x.span(0), 3);
        x.report(3, 9, 80, 87);
        // coloured: (45 - 2) * 2, the same in 11; (18 - 2) * 5 in 4.
        due("how many by four", x.span(0), 3);
        x.report(2, 9, 90, 90);
        due("how many by five", x.span(0), 3);
        x.report(3, 9, 80, 80);
        due("one is left", x.span(0), 1);
        due("its hour", x.span(1), 4);
        due("its slant", x.span(2), 5);
        x.forget();
        x.report(1, 1, 999, 999);
        due("none", x.span(0), 0);
        due("no hour", x.span(1), NONE);
        due("no slant", x.span(2), NONE);
        for (int b : new int[] {-1, 3, MIN, MAX}) {
            due("no such what", x.span(b), BAD);
        }
        x.forget();
        x.report(1, 9, 405, 405);
        due("hour 15 and slant 5", x.span(0), 1);
        due("hour 15", x.span(1), 15);
        due("slant 5", x.span(2), 5);
        x.forget();
        x.report(1, 9, 450, 450);
        due("no hour 16", x.span(1), NONE);
        x.forget();
        x.report(1, 9, 486, 486);
        due("no slant 6", x.span(1), NONE);
    }

    private static void liar() {
        promise = 39;
        ShadowSchool x = new ShadowSchool();
        due("no reports", x.liar(), NONE);
        x.report(1, 1, 0, 0);
        due("some fit", x.liar(), NONE);
        x.forget();
        x.report(1, 1, 6, 6);
        due("the first of all fits", x.liar(), NONE);
        x.forget();
        x.report(1, 1, 0, 0);
        x.report(4, 1, 0, 999);
        x.report(4, 1, 0, 0);
        due("the least of two", x.liar(), 0);
        x.report(4, 2, 0, 0);
        due("0 alone", x.liar(), 0);
        x.report(1, 2, 0, 0);
        due("two against two", x.liar(), NONE);
        x.forget();
        x.report(1, 1, 0, 0);
        x.report(1, 2, 0, 0);
        x.report(4, 2, 0, 0);
        due("the last", x.liar(), 2);
        x.forget();
        x.report(1, 1, 999, 999);
        due("one alone", x.liar(), 0);
    }

    private static void seed() {
        promise = 40;
        ShadowSchool x = new ShadowSchool();
        due("was", x.seed(MIN), 1);
        due("was then", x.seed(-3), MIN);
        due("was at last", x.seed(0), -3);
        x.hour();
        due("hours leave it", x.seed(0), 0);
        x.lot();
        due("a lot takes it on", x.seed(1), 12345);
        x.lot();
        due("and on", x.seed(0), 1103527590);
    }

    private static void lot() {
        promise = 41;
        ShadowSchool x = narrow();
        int z = 77;
        x.seed(z);
        int worth = 0;
        for (int h = 0; h < 12; h++) {
            z = z * 1103515245 + 12345;
            int sent = (z >>> 16) % 3;
            bytes(x, 0, sent);
            int want = x.wouldBe(0, 0, 1);
            due("worth in " + h, x.lot(), want);
            worth += want;
            due("hour", x.state(0), h + 1);
            due("z", x.seed(z), z);
            due("score", x.state(2), worth);
        }
        due("over", x.lot(), STATE);
        due("z stays", x.seed(z), z);
        // From z = 1: 1103527590 >>> 16 is 16838, which leaves 2 by 3: SHADOW 1 is out.
        x = narrow();
        x.lot();
        due("0 was in", x.points(0, 0), 3);
        x = narrow();
        x.seed(3);
        // 3 * 1103515245 + 12345 is -984409216 wrapped; >>> 16 is 50515, which leaves 1 by 3.
        x.lot();
        due("0 was out", x.points(0, 0), 0);
        due("1 was in", x.points(1, 0), 2);
    }

    private static void often() {
        promise = 42;
        ShadowSchool x = narrow();
        x.seed(5);
        x.hour();
        int z = 5;
        int[] worths = new int[40];
        for (int k = 0; k < 40; k++) {
            ShadowSchool y = narrow();
            y.hour();
            y.seed(z);
            for (int h = 1; h < 12; h++) {
                worths[k] += y.lot();
            }
            z = y.seed(0);
        }
        for (int v = 0; v <= 22; v++) {
            int want = 0;
            for (int worth : worths) {
                want += worth >= v ? 1 : 0;
            }
            due("often of 40, " + v, x.often(40, v), want);
        }
        due("often of 1", x.often(1, worths[0]), 1);
        due("more than that", x.often(1, worths[0] + 1), 0);
        due("z stays", x.seed(5), 5);
        due("hour stays", x.state(0), 1);
        due("score stays", x.state(2), 0);
        due("999", x.often(40, 999), 0);
        x.dusk(1);
        due("over, 0", x.often(40, 0), 40);
        due("over, 1", x.often(40, 1), 0);
        for (int b : new int[] {0, 41, -1, MIN, MAX}) {
            due("bad n", x.often(b, 0), BAD);
        }
        for (int b : new int[] {-1, 1000, MIN, MAX}) {
            due("bad v", x.often(1, b), BAD);
        }
    }

    private static void prove() {
        promise = 43;
        ShadowSchool x = plansFor();
        due("rows", x.prove(3), 3);
        int[][] want = {{0, 0, 0}, {1, 8, 1}, {0, 5, 3}};
        for (int k = 0; k < 3; k++) {
            for (int what = 0; what < 3; what++) {
                due("row " + k + " part " + what, x.row(k, what), want[k][what]);
            }
        }
        due("hour stays", x.state(0), 0);
        for (int b : new int[] {-1, 5, MIN, MAX}) {
            due("bad n", x.prove(b), BAD);
        }
        due("they stay", x.many(4), 3);
        due("none", x.prove(0), 0);
        due("none now", x.many(4), 0);
        x.dusk(2);
        due("till dusk", x.prove(4), 2);
        pass(x, 2);
        due("over", x.prove(4), 0);
        x = new ShadowSchool();
        x.shadow(1, 5, 1);
        x.lesson(5, -1, 0, 0, 1);
        x.prove(1);
        due("its act", x.row(0, 0), 0);
        due("its worth", x.row(0, 1), 5);
        due("its set", x.row(0, 2), 1);
    }

    private static void row() {
        promise = 44;
        ShadowSchool x = plansFor();
        due("none yet", x.row(0, 0), -9);
        x.prove(2);
        due("act", x.row(0, 0), 1);
        due("worth", x.row(1, 1), 5);
        due("set", x.row(1, 2), 3);
        for (int b : new int[] {-1, 2, MIN, MAX}) {
            due("no such row", x.row(b, 0), -9);
        }
        for (int b : new int[] {-1, 3, MIN, MAX}) {
            due("no such what", x.row(0, b), -9);
        }
    }

    private static void alterRow() {
        promise = 45;
        ShadowSchool x = plansFor();
        due("none yet", x.alterRow(0, 0, 1), -9);
        x.prove(2);
        due("was", x.alterRow(1, 1, MIN), 5);
        due("was then", x.alterRow(1, 1, MAX), MIN);
        due("is", x.row(1, 1), MAX);
        due("the others stay", x.row(1, 0), 0);
        due("the others stay, too", x.row(1, 2), 3);
        for (int b : new int[] {-1, 2, MIN, MAX}) {
            due("no such row", x.alterRow(b, 0, 1), -9);
        }
        for (int b : new int[] {-1, 3, MIN, MAX}) {
            due("no such what", x.alterRow(0, b, 1), -9);
        }
    }

    private static void judge() {
        promise = 46;
        ShadowSchool x = plansFor();
        due("no rows", x.judge(), 0);
        x.prove(3);
        due("right", x.judge(), 0);
        x.alterRow(2, 0, 1);
        due("another act, as right", x.judge(), 0);
        x.alterRow(2, 0, 2);
        due("another act, by which it isn't so", x.judge(), 3);
        x.alterRow(2, 0, 3);
        due("no act", x.judge(), 3);
        x.alterRow(2, 0, -1);
        due("no act below", x.judge(), 3);
        x.alterRow(1, 2, 3);
        due("another set", x.judge(), 2);
        x.alterRow(0, 1, 7);
        due("another worth", x.judge(), 1);
        x.prove(3);
        x.dusk(2);
        due("over ahead of the third", x.judge(), 3);
        x.dusk(12);
        due("right again", x.judge(), 0);
        x.hour();
        due("right from here, too", x.judge(), 0);
        bytes(x, 0, 1);
        x.goAll(0, 0, 1);
        due("from how it is now", x.judge(), 1);
        due("hour stays", x.state(0), 2);
    }

    private static void sheet() {
        promise = 47;
        ShadowSchool x = new ShadowSchool();
        for (int sort = 0; sort <= 4; sort++) {
            due("made", x.sheet(3, sort, 40), 1);
            due("written", x.write(3, 39, 1), 1);
            due("is 1", x.item(3, sort, 39), 1);
            due("made anew", x.sheet(3, sort, 40), 1);
            due("is 0", x.item(3, sort, 39), 0);
            due("is of the sort", x.item(3, (sort + 1) % 5, 0), -13);
            due("empty", x.sheet(3, sort, 0), 1);
            due("has nothing", x.item(3, sort, 0), -12);
        }
        due("missing", x.sheet(3, -1, MIN), 1);
        due("is missing", x.item(3, 0, 0), -11);
        due("missing, n counts nothing", x.sheet(3, -1, MAX), 1);
        for (int b : new int[] {-1, 4, MIN, MAX}) {
            due("no such sheet", x.sheet(b, 0, 1), BAD);
            due("no such sheet, missing", x.sheet(b, -1, 1), BAD);
        }
        for (int b : new int[] {-2, 5, MIN, MAX}) {
            due("no such sort", x.sheet(0, b, -1), BAD);
        }
        due("too many", x.sheet(0, 2, 41), BAD);
        due("far too many", x.sheet(0, 2, MAX), BAD);
        due("below 0", x.sheet(0, 2, -1), -14);
        due("far below", x.sheet(0, 2, MIN), -14);
        due("still missing", x.write(0, 0, 0), -11);
    }

    private static void write() {
        promise = 48;
        ShadowSchool x = new ShadowSchool();
        int[] given = {0, 1, -1, 127, 128, 255, 256, -129, 32768, 65536, MIN, MAX};
        int[][] want = {{0, 1, -1, 127, -128, -1, 0, 127, 0, 0, 0, -1},
            {0, 1, -1, 127, 128, 255, 256, -129, -32768, 0, 0, -1}, given, given,
            {0, 1, 1, 1, 1, 1, 1, 1, 1, 1, 1, 1}};
        for (int sort = 0; sort <= 4; sort++) {
            x.sheet(1, sort, given.length);
            for (int i = 0; i < given.length; i++) {
                due("written", x.write(1, i, given[i]), 1);
            }
            for (int i = 0; i < given.length; i++) {
                due("sort " + sort + " of " + given[i], x.item(1, sort, i), want[sort][i]);
            }
            for (int b : new int[] {-1, given.length, MIN, MAX}) {
                due("outside", x.write(1, b, 1), -12);
            }
        }
        for (int b : new int[] {-1, 4, MIN, MAX}) {
            due("no such sheet", x.write(b, 0, 1), BAD);
        }
        due("missing", x.write(0, 99, 1), -11);
    }

    private static void item() {
        promise = 49;
        ShadowSchool x = new ShadowSchool();
        x.sheet(2, 1, 3);
        x.write(2, 2, -13);
        due("as low as refusals", x.item(2, 1, 2), -13);
        due("first", x.item(2, 1, 0), 0);
        for (int b : new int[] {-1, 3, MIN, MAX}) {
            due("outside", x.item(2, 1, b), -12);
        }
        for (int sort : new int[] {0, 2, 3, 4}) {
            due("another sort", x.item(2, sort, 99), -13);
        }
        for (int b : new int[] {-1, 5, MIN, MAX}) {
            due("no such sort", x.item(2, b, 0), BAD);
        }
        for (int b : new int[] {-1, 4, MIN, MAX}) {
            due("no such sheet", x.item(b, 0, 0), BAD);
        }
        for (int sort = 0; sort <= 4; sort++) {
            due("missing", x.item(0, sort, 99), -11);
        }
    }

    private static void goAll() {
        promise = 50;
        ShadowSchool x = plansFor();
        bytes(x, 0, 1, 3, -1, 0, 127, 2);
        due("none", x.goAll(0, 99, 0), 0);
        due("hour stays", x.state(0), 0);
        due("four items, two acts", x.goAll(0, 0, 4), 13);
        due("two hours", x.state(0), 2);
        due("score", x.state(2), 13);
        due("learnt", x.learnt(1), 3);
        due("past the end", x.goAll(0, 5, 2), -12);
        due("what stood ahead was done", x.state(0), 3);
        due("outside at once", x.goAll(0, -1, 3), -12);
        due("far outside", x.goAll(0, MAX, 20), -12);
        due("far ahead", x.goAll(0, MIN, 20), -12);
        due("nothing was done", x.state(0), 3);
        x.dusk(4);
        bytes(x, 1, 0, 0, 0);
        due("over is left out", x.goAll(1, 0, 3), 0);
        due("till dusk", x.state(0), 4);
        due("over, and past the end", x.goAll(1, 2, 2), -12);
        for (int b : new int[] {-1, 4, MIN, MAX}) {
            due("no such sheet", x.goAll(b, 0, 1), BAD);
        }
        for (int b : new int[] {-1, 21, MIN, MAX}) {
            due("bad n", x.goAll(2, 0, b), BAD);
        }
        due("missing", x.goAll(2, 99, 1), -11);
        x.sheet(2, 2, 5);
        due("ints", x.goAll(2, 99, 1), -13);
        x.sheet(2, 0, 40);
        x.dusk(16);
        due("twenty", x.goAll(2, 20, 20), 8);
        due("to dusk", x.state(0), 16);
    }

    private static void wouldBe() {
        promise = 51;
        ShadowSchool x = plansFor();
        bytes(x, 0, 1, 0, 2, 3, 1);
        due("none", x.wouldBe(0, 99, 0), 0);
        due("one", x.wouldBe(0, 0, 1), 8);
        due("two", x.wouldBe(0, 0, 2), 13);
        due("three", x.wouldBe(0, 0, 3), 13);
        due("no act", x.wouldBe(0, 0, 4), STATE);
        due("no act ahead of the end", x.wouldBe(0, 3, 3), STATE);
        due("the end ahead", x.wouldBe(0, 4, 2), -12);
        due("outside at once", x.wouldBe(0, -1, 2), -12);
        due("far outside", x.wouldBe(0, MAX, 20), -12);
        due("hour stays", x.state(0), 0);
        due("score stays", x.state(2), 0);
        x.dusk(2);
        due("over ahead of the third", x.wouldBe(0, 0, 3), STATE);
        pass(x, 2);
        due("over, outside first", x.wouldBe(0, 5, 1), -12);
        due("over, none", x.wouldBe(0, 5, 0), 0);
        x.write(0, 0, -1);
        x.anew();
        due("no act below", x.wouldBe(0, 0, 1), STATE);
        for (int b : new int[] {-1, 4, MIN, MAX}) {
            due("no such sheet", x.wouldBe(b, 0, 1), BAD);
        }
        for (int b : new int[] {-1, 21, MIN, MAX}) {
            due("bad n", x.wouldBe(2, 0, b), BAD);
        }
        due("missing", x.wouldBe(2, 99, 1), -11);
        x.sheet(2, 4, 5);
        due("booleans", x.wouldBe(2, 99, 1), -13);
    }

    private static void shelf() {
        promise = 52;
        ShadowSchool x = ofEach(1, 1);
        x.sheet(1, 3, 7);
        due("a shadow", x.shelf(3, 0, 4), 1);
        due("it is", x.taken(3, 0), 4);
        due("a row", x.shelf(3, 1, 1), 1);
        due("it is a row", x.taken(3, 13), 7);
        due("a missing one", x.shelf(3, 1, 0), 1);
        due("is nothing", x.taken(3, 13), -11);
        x.shelf(3, 0, 4);
        due("nothing", x.shelf(3, 2, MIN), 1);
        due("it is nothing", x.taken(3, 0), -11);
        x.shelf(0, 0, 2);
        for (int b : new int[] {-1, 4, MIN, MAX}) {
            due("no such shelf", x.shelf(b, 2, 0), BAD);
            due("no such sheet", x.shelf(0, 1, b), BAD);
        }
        for (int b : new int[] {-1, 3, MIN, MAX}) {
            due("no such what", x.shelf(0, b, 0), BAD);
        }
        for (int b : new int[] {-1, 5, MIN, MAX}) {
            due("no such shadow", x.shelf(0, 0, b), BAD);
        }
        due("it stays", x.taken(0, 0), 2);
    }

    private static void taken() {
        promise = 53;
        ShadowSchool x = ofEach(1, 1);
        boolean[][] is = {{true, true, false, false, false, false}, {true, false, true, false, false, false},
            {true, false, true, true, false, false}, {true, false, false, false, true, false},
            {true, false, false, false, true, true}};
        for (int p = 0; p < 5; p++) {
            x.shelf(0, 0, p);
            for (int as = 0; as <= 5; as++) {
                due(p + " as " + as, x.taken(0, as), is[p][as] ? p : -13);
            }
            for (int as = 10; as <= 14; as++) {
                due(p + " as a row " + as, x.taken(0, as), -13);
            }
        }
        for (int sort = 0; sort <= 4; sort++) {
            x.sheet(2, sort, sort + 3);
            x.shelf(1, 1, 2);
            for (int as = 10; as <= 14; as++) {
                due("a row of " + sort + " as " + as, x.taken(1, as), as - 10 == sort ? sort + 3 : -13);
            }
            due("a row as a thing", x.taken(1, 0), -13);
        }
        x.sheet(2, 0, 1);
        due("the row is held, not the sheet", x.taken(1, 14), 7);
        for (int b : new int[] {-1, 4, MIN, MAX}) {
            due("no such shelf", x.taken(b, 0), BAD);
        }
        for (int b : new int[] {-1, 6, 9, 15, MIN, MAX}) {
            due("no such as", x.taken(0, b), BAD);
            due("no such as of nothing", x.taken(3, b), BAD);
        }
        due("nothing", x.taken(3, 0), -11);
        due("nothing as a row", x.taken(3, 12), -11);
        // By its number: as it is at the time, or nothing while there is no such one.
        x = new ShadowSchool();
        x.keep();
        x.shadow(1, 1, 1);
        x.shelf(0, 0, 0);
        x.remake(0, 5);
        due("of another kind now", x.taken(0, 4), 0);
        x.again();
        due("no such one", x.taken(0, 0), -11);
        x.shadow(2, 1, 1);
        due("another one", x.taken(0, 2), 0);
    }

    /** What an act answers, and the bodies that ran. */
    private static void does(ShadowSchool x, int act, int with, int want, int... bodies) {
        due("act " + act + " with " + with, x.act(0, act, with), want);
        due("bodies of act " + act, x.many(6), bodies.length);
        for (int i = 0; i < bodies.length; i++) {
            due("body " + i + " of act " + act, x.trace(i), bodies[i]);
        }
        due("behind the last body", x.trace(bodies.length), NONE);
    }

    private static void act() {
        promise = 54;
        ShadowSchool x = ofEach(7, 1);
        x.shelf(0, 0, 0);
        does(x, 0, 5, 10 ^ 7, 20, 10);
        does(x, 1, 5, (10 ^ 7) - 7, 11, 20, 10);
        does(x, 2, 50, -7, 12);
        does(x, 3, 5, ((10 ^ 7) - 7) * 3, 13, 11, 20, 10);
        x.shelf(0, 0, 1);
        does(x, 0, 5, 11, 10);
        does(x, 1, 5, 13, 30, 11, 10);
        does(x, 2, -50, 8, 12);
        does(x, 3, 5, 39, 13, 30, 11, 10);
        x.shelf(0, 0, 2);
        does(x, 0, 5, -12, 50, 10);
        does(x, 1, 5, -10, 30, 11, 50, 10);
        does(x, 2, 50, -10, 12);
        does(x, 3, 5, -30, 51, 13, 30, 11, 50, 10, 12);
        x.shelf(0, 0, 3);
        does(x, 0, 5, 13, 10);
        does(x, 1, 5, 6, 11, 10);
        does(x, 2, 50, -13, 40, 12);
        does(x, 3, 5, 18, 13, 11, 10);
        x.shelf(0, 0, 4);
        does(x, 0, 5, 14, 10);
        does(x, 1, 5, 14, 60, 11, 10);
        does(x, 2, 50, -17 ^ 18, 61, 40, 12, 10);
        does(x, 3, 5, 42, 13, 60, 11, 10);
        x.change(2, 1, 1);
        x.shelf(0, 0, 2);
        does(x, 3, 5, (-12 - 1 + 9) * 3 + 2, 51, 13, 30, 11, 50, 10, 12);
        x.shelf(0, 0, 4);
        // Ints wrap.
        does(x, 0, MAX, 2, 10);
        x.change(3, 1, 4);
        x.shelf(0, 0, 3);
        does(x, 2, MIN, MAX, 40, 12);
        // Parted by 0: nothing behind it runs.
        x.change(4, 1, 4);
        x.shelf(0, 0, 4);
        does(x, 2, 1, -15, 61, 40, 12);
        does(x, 0, 1, 6, 10);
        x.change(2, 1, 2);
        x.shelf(0, 0, 2);
        does(x, 3, 1, -15, 51, 13, 30, 11, 50, 10, 12);
        for (int b : new int[] {-1, 4, MIN, MAX}) {
            does(x, b, 1, 0);
            x.act(0, 0, 1);
            due("no such shelf", x.act(b, 0, 1), 0);
            due("no trace", x.many(6), 0);
        }
        x.act(0, 0, 1);
        x.shelf(0, 2, 0);
        does(x, 0, 1, 0);
        x.sheet(0, 0, 4);
        x.shelf(0, 1, 0);
        does(x, 0, 1, 0);
        x = new ShadowSchool();
        x.keep();
        x.shadow(1, 1, 1);
        x.shelf(0, 0, 0);
        x.again();
        does(x, 0, 1, 0);
    }

    private static void trace() {
        promise = 55;
        ShadowSchool x = ofEach(7, 1);
        due("none yet", x.trace(0), NONE);
        x.shelf(0, 0, 0);
        x.act(0, 1, 1);
        due("first", x.trace(0), 11);
        due("second", x.trace(1), 20);
        due("third", x.trace(2), 10);
        for (int b : new int[] {-1, 3, MIN, MAX}) {
            due("none", x.trace(b), NONE);
        }
        x.act(0, 2, 1);
        due("the latest act alone", x.trace(0), 12);
        due("no second", x.trace(1), NONE);
        x.taken(0, 0);
        x.shelf(0, 2, 0);
        due("other calls leave it", x.trace(0), 12);
    }

    private static void many() {
        promise = 56;
        ShadowSchool x = narrow();
        x.shadow(2, 1, 1);
        read(x, "slow last; slow last; slow last; slow last;");
        x.lesson(1, -1, 0, 0, 1);
        x.lesson(1, -1, 0, 0, 1);
        x.lesson(1, -1, 0, 0, 1);
        x.report(1, 1, 0, 0);
        x.prove(2);
        x.feed(0, 7);
        x.shelf(0, 0, 2);
        x.act(0, 3, 1);
        x.quarrel(0, 1, 1);
        x.quarrel(1, 2, 1);
        int[] want = {3, 4, 5, 1, 2, 7, 4, 2};
        for (int what = 0; what <= 7; what++) {
            due("what " + what, x.many(what), want[what]);
        }
        for (int b : new int[] {-1, 8, MIN, MAX}) {
            due("no such what", x.many(b), BAD);
        }
    }

    private static void keep() {
        promise = 57;
        ShadowSchool x = narrow();
        read(x, "shadow if hour > 90 play;");
        x.quarrel(0, 1, 1);
        x.report(1, 1, 10, 10);
        x.seed(99);
        x.dusk(14);
        pass(x, 3);
        due("kept", x.keep(), 1);
        spoil(x);
        x.again();
        due("shadows", x.many(0), 2);
        due("rules", x.many(1), 1);
        due("lessons", x.many(2), 2);
        due("reports", x.many(3), 1);
        due("pairs", x.many(7), 1);
        due("kind", x.shadowOf(0, 0), 1);
        due("quick", x.shadowOf(0, 1), 3);
        due("tall", x.shadowOf(0, 2), 4);
        due("hour", x.state(0), 3);
        due("dusk", x.state(1), 14);
        due("score", x.state(2), 6);
        due("points", x.points(0, 0), 6);
        due("points of 1", x.points(1, 0), 2);
        due("learnt", x.learnt(0), 1);
        due("quarrels", x.quarrels(0), 2);
        due("moments", x.span(0), 4);
        due("seed", x.seed(99), 99);
        due("the rule as it was", x.shadowOf(0, 5), 1);
        due("the rest", x.on(16), 14);
        // The tape, rows, sheets, shelves and the trace aren't kept.
        due("rows", x.many(4), 4);
        due("bytes", x.many(5), 3);
        due("bodies", x.many(6), 1);
        due("sheet", x.item(0, 0, 0), 5);
        due("shelf", x.taken(0, 10), 1);
    }

    /** All is made another. */
    private static void spoil(ShadowSchool x) {
        x.shadow(2, 2, 2);
        x.remake(0, 5);
        x.change(0, 1, 9);
        x.change(0, 2, 9);
        x.lesson(1, -1, 0, 15, 1);
        x.quarrel(0, 1, 0);
        x.quarrel(1, 2, 1);
        x.quarrel(0, 2, 1);
        x.forget();
        x.report(1, 1, 0, 999);
        x.report(1, 1, 5, 5);
        x.seed(3);
        x.dusk(16);
        pass(x, 2);
        read(x, "shadow play;shadow last;");
        x.prove(4);
        x.feed(0, 3);
        x.shelf(0, 0, 2);
        x.act(0, 0, 1);
        bytes(x, 0, 5);
        x.shelf(0, 1, 0);
    }

    private static void again() {
        promise = 58;
        ShadowSchool x = new ShadowSchool();
        due("nothing is kept", x.again(), NONE);
        x.keep();
        x.shadow(1, 1, 1);
        due("nobody was kept", x.again(), 0);
        due("nobody", x.many(0), 0);
        x.shadow(1, 1, 1);
        x.shadow(1, 2, 2);
        x.keep();
        x.change(0, 1, 9);
        due("the latest", x.again(), 2);
        due("quick", x.shadowOf(0, 1), 1);
        x.change(0, 1, 9);
        due("it stays", x.again(), 2);
        due("quick again", x.shadowOf(0, 1), 1);
        x.lesson(5, -1, 0, 15, 1);
        x.hour();
        x.again();
        due("no lessons", x.many(2), 0);
        due("hour 0", x.state(0), 0);
        due("a new one has all places and hours", x.lesson(1, -1, 3, 3, 1), 0);
        due("not in hour 0", x.shadowOf(0, 5), 8);
    }

    public static void main(String[] args) {
        newObject();
        shadow();
        shadowOf();
        change();
        remake();
        lesson();
        lessonOf();
        points();
        dusk();
        anew();
        state();
        feed();
        rules();
        whatRulesDo();
        hour();
        learnt();
        on();
        when();
        letGo();
        crowd();
        quickFor();
        letGoBy();
        roomFor();
        quarrel();
        quarrels();
        rooms();
        seat();
        seatings();
        match();
        best();
        ith();
        ways();
        taught();
        bars();
        game();
        play();
        report();
        forget();
        span();
        liar();
        seed();
        lot();
        often();
        prove();
        row();
        alterRow();
        judge();
        sheet();
        write();
        item();
        goAll();
        wouldBe();
        shelf();
        taken();
        act();
        trace();
        many();
        keep();
        again();
        System.out.println(wrong == 0 ? "all promises stand" : wrong + " answers are not as due");
        if (wrong != 0) {
            System.exit(1);
        }
    }
}
