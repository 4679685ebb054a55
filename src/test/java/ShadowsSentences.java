/** Sentences of shadows and lessons: promises 1 to 11, and the Terms that they go by. */
final class ShadowsSentences extends Sentences {
    static void newObject() {
        of(1, "No SHADOWS, LESSONS, RULES, QUARRELS, REPORTS; nothing is kept.");
        ShadowSchool x = new ShadowSchool();
        due("SHADOWS", x.many(0), 0);
        due("SHADOW 0", x.shadowOf(0, 0), BAD);
        due("LESSONS", x.many(2), 0);
        due("LESSON 0", x.lessonOf(0, 0), BAD);
        due("RULES", x.many(1), 0);
        due("QUARRELS", x.many(7), 0);
        due("REPORTS", x.many(3), 0);
        due("ROWS", x.many(4), 0);
        due("THE TAPE", x.many(5), 0);
        due("THE TRACE", x.many(6), 0);
        due("nothing is kept", x.again(), NONE);
        ShadowSchool y = new ShadowSchool();
        x.shadow(1, 1, 1);
        x.keep();
        due("another object has its own", y.many(0), 0);
        due("and keeps its own", y.again(), NONE);
    }

    // ---- Terms

    static void hours() {
        of(14, "HOURS are 0, 1, ..;");
        ShadowSchool x = new ShadowSchool();
        x.dusk(16);
        for (int h = 0; h < 16; h++) {
            due("HOUR", x.state(0), h);
            x.hour();
        }
        due("behind the last", x.state(0), 16);
    }

    static void duskFrom1To16() {
        of(9, "DUSK is 1 to 16 (12 at first);");
        due("at first", new ShadowSchool().state(1), 12);
        ShadowSchool x = new ShadowSchool();
        due("the least", x.dusk(1), 12);
        due("the greatest", x.dusk(16), 1);
        due("it is", x.state(1), 16);
        for (int b : outside(1, 16)) {
            refused("dusk " + b, Sentences::fresh, y -> y.dusk(b), BAD);
        }
    }

    static void hourThatComes() {
        of(11, "HOUR: the one that comes (0 at first);");
        ShadowSchool x = new ShadowSchool();
        due("at first", x.state(0), 0);
        x.hour();
        due("behind one", x.state(0), 1);
    }

    static void overFromDuskOn() {
        of(11, "from DUSK on it is OVER.");
        ShadowSchool x = new ShadowSchool();
        x.dusk(3);
        for (int h = 0; h < 3; h++) {
            due("not in " + h, x.state(3), 0);
            due("an HOUR goes by", x.hour(), 0);
        }
        due("in 3", x.state(3), 1);
        due("none goes by", x.hour(), STATE);
        x.dusk(4);
        due("DUSK later", x.state(3), 0);
        x.anew();
        x.dusk(16);
        pass(x, 15);
        due("not in 15", x.state(3), 0);
        x.hour();
        due("in 16", x.state(3), 1);
    }

    static void sixShadows() {
        of(2, "SHADOWS, 6 at most, numbered as they come:");
        ShadowSchool x = new ShadowSchool();
        for (int p = 0; p < 6; p++) {
            due("number", x.shadow(1 + p % 5, 9 - p, 1 + p), p);
        }
        for (int p = 0; p < 6; p++) {
            due("KIND of " + p, x.shadowOf(p, 0), 1 + p % 5);
            due("QUICK of " + p, x.shadowOf(p, 1), 9 - p);
            due("TALL of " + p, x.shadowOf(p, 2), 1 + p);
        }
        refused("a seventh", Sentences::full, y -> y.shadow(1, 1, 1), FULL);
        due("six", x.many(0), 6);
        due("no SHADOW 6", x.learnt(6), BAD);
    }

    static void quickFrom1To9() {
        of(2, "a KIND, QUICK (1 to 9),");
        ShadowSchool x = new ShadowSchool();
        due("the least", x.shadow(1, 1, 5), 0);
        due("the greatest", x.shadow(1, 9, 5), 1);
        due("1", x.shadowOf(0, 1), 1);
        due("9", x.shadowOf(1, 1), 9);
        for (int b : outside(1, 9)) {
            refused("QUICK " + b, Sentences::school, y -> y.shadow(1, b, 5), BAD);
            refused("QUICK becomes " + b, Sentences::school, y -> y.change(0, 1, b), BAD);
        }
    }

    static void tallFrom1To9() {
        of(2, "TALL (1 to 9).");
        ShadowSchool x = new ShadowSchool();
        due("the least", x.shadow(1, 5, 1), 0);
        due("the greatest", x.shadow(1, 5, 9), 1);
        due("1", x.shadowOf(0, 2), 1);
        due("9", x.shadowOf(1, 2), 9);
        for (int b : outside(1, 9)) {
            refused("TALL " + b, Sentences::school, y -> y.shadow(1, 5, b), BAD);
            refused("TALL becomes " + b, Sentences::school, y -> y.change(0, 2, b), BAD);
            refused("TALL of a REPORT " + b, Sentences::school, y -> y.report(1, b, 0, 0), BAD);
        }
    }

    static void score() {
        of(11, "SCORE: what HOURS were WORTH (0 at first).");
        ShadowSchool x = alike(1, 4, 9, 1);
        due("at first", x.state(2), 0);
        x.lesson(5, -1, 0, 0, 1);
        x.lesson(4, -1, 1, 15, 1);
        x.lesson(3, -1, 3, 15, 1);
        x.lesson(2, -1, 4, 15, 1);
        x.hour();
        due("an hour()", x.state(2), 5);
        x.lot();
        x.lot();
        x.anew();
        due("anew", x.state(2), 0);
        bytes(x, 0, 0, 1, 0);
        x.goAll(0, 0, 3);
        due("goAll()", x.state(2), 5 + 4);
        x.seed(1);
        x.lot();
        due("a lot() by which it isn't SENT OUT", x.state(2), 5 + 4 + 3);
    }

    static void kinds() {
        of(53, "KINDS: 0 shadow; 1 joined, 2 gifted, 4 slow (under shadow); 3 coloured (under gifted); "
            + "5 borrowed (under slow).");
        int[][] isUnder = {{1, 1, 0, 0, 0, 0}, {1, 0, 1, 0, 0, 0}, {1, 0, 1, 1, 0, 0}, {1, 0, 0, 0, 1, 0},
            {1, 0, 0, 0, 1, 1}};
        String[] names = {"shadow", "joined", "gifted", "coloured", "slow", "borrowed"};
        for (int kind = 1; kind <= 5; kind++) {
            ShadowSchool x = alike(1, kind, 5, 5);
            x.lesson(9, -1, 0, 15, 1);
            x.shelf(0, 0, 0);
            for (int as = 0; as <= 5; as++) {
                boolean is = isUnder[kind - 1][as] == 1;
                due(names[kind] + " taken for " + names[as], x.taken(0, as), is ? 0 : OTHER);
                due("a RULE", read(x, names[as] + " play;"), 1);
                due(names[kind] + " by a RULE for " + names[as], x.shadowOf(0, 5), is ? 8 : 0);
            }
        }
    }

    static void eightLessons() {
        of(6, "LESSONS, 8 at most, numbered as they come:");
        ShadowSchool x = new ShadowSchool();
        for (int l = 0; l < 8; l++) {
            due("number", x.lesson(l + 1, -1, 0, 15, 6), l);
        }
        for (int l = 0; l < 8; l++) {
            due("HARD of " + l, x.lessonOf(l, 0), l + 1);
        }
        refused("a ninth", Sentences::full, y -> y.lesson(1, -1, 0, 15, 6), FULL);
        due("eight", x.many(2), 8);
        due("no LESSON 8", x.lessonOf(8, 0), BAD);
    }

    static void hardFrom1To20() {
        of(6, "HARD (1 to 20),");
        ShadowSchool x = new ShadowSchool();
        due("the least", x.lesson(1, -1, 0, 0, 1), 0);
        due("the greatest", x.lesson(20, -1, 0, 0, 1), 1);
        due("1", x.lessonOf(0, 0), 1);
        due("20", x.lessonOf(1, 0), 20);
        for (int b : outside(1, 20)) {
            refused("HARD " + b, Sentences::school, y -> y.lesson(b, -1, 0, 0, 1), BAD);
        }
    }

    static void needCameAhead() {
        of(6, "perhaps a NEED (a LESSON that came ahead of it; -1: none),");
        ShadowSchool x = new ShadowSchool();
        due("none", x.lesson(1, -1, 0, 0, 1), 0);
        due("the first", x.lesson(1, 0, 0, 0, 1), 1);
        due("the latest", x.lesson(1, 1, 0, 0, 1), 2);
        due("-1", x.lessonOf(0, 1), -1);
        due("0", x.lessonOf(1, 1), 0);
        due("1", x.lessonOf(2, 1), 1);
        refused("itself, the first", Sentences::fresh, y -> y.lesson(1, 0, 0, 0, 1), BAD);
        for (int b : outside(-1, 2)) {
            refused("NEED " + b, Sentences::school, y -> y.lesson(1, b, 0, 0, 1), BAD);
        }
        refused("the eighth of a ninth", Sentences::full, y -> y.lesson(1, 7, 0, 0, 1), FULL);
        refused("a ninth of a ninth", Sentences::full, y -> y.lesson(1, 8, 0, 0, 1), BAD);
    }

    static void fromAndTo() {
        of(6, "FROM and TO (HOURS 0 to 15, TO not below FROM),");
        ShadowSchool x = new ShadowSchool();
        due("all HOURS", x.lesson(1, -1, 0, 15, 1), 0);
        due("the first alone", x.lesson(1, -1, 0, 0, 1), 1);
        due("the last alone", x.lesson(1, -1, 15, 15, 1), 2);
        due("FROM 0", x.lessonOf(0, 2), 0);
        due("TO 15", x.lessonOf(0, 3), 15);
        due("FROM 15", x.lessonOf(2, 2), 15);
        due("TO 0", x.lessonOf(1, 3), 0);
        for (int b : outside(0, 15)) {
            refused("FROM " + b, Sentences::school, y -> y.lesson(1, -1, b, 15, 1), BAD);
            refused("TO " + b, Sentences::school, y -> y.lesson(1, -1, 0, b, 1), BAD);
            refused("both " + b, Sentences::school, y -> y.lesson(1, -1, b, b, 1), BAD);
        }
        refused("TO below FROM by 1", Sentences::school, y -> y.lesson(1, -1, 8, 7, 1), BAD);
        refused("TO far below FROM", Sentences::school, y -> y.lesson(1, -1, 15, 0, 1), BAD);
    }

    static void roomFrom1To6() {
        of(6, "ROOM (1 to 6 places).");
        ShadowSchool x = new ShadowSchool();
        due("the least", x.lesson(1, -1, 0, 0, 1), 0);
        due("the greatest", x.lesson(1, -1, 0, 0, 6), 1);
        due("1", x.lessonOf(0, 4), 1);
        due("6", x.lessonOf(1, 4), 6);
        for (int b : outside(1, 6)) {
            refused("ROOM " + b, Sentences::school, y -> y.lesson(1, -1, 0, 0, b), BAD);
        }
    }

    static void pointsAndLearntAtFirst() {
        of(8, "Each SHADOW has POINTS in each LESSON (0 at first), and has LEARNT some (none at first).");
        ShadowSchool x = alike(6, 1, 9, 9);
        for (int l = 0; l < 8; l++) {
            x.lesson(9, -1, 0, 15, 6);
        }
        for (int p = 0; p < 6; p++) {
            for (int l = 0; l < 8; l++) {
                due("POINTS of " + p + " in " + l, x.points(p, l), 0);
            }
            due("LEARNT by " + p, x.learnt(p), 0);
        }
        // What came where another was that again() took away has nothing of it.
        x = alike(1, 4, 9, 1);
        x.keep();
        x.shadow(4, 9, 1);
        x.lesson(5, -1, 0, 15, 6);
        x.quarrel(0, 1, 1);
        x.hour();
        x.again();
        x.shadow(4, 9, 1);
        x.lesson(5, -1, 3, 15, 6);
        due("POINTS of a new SHADOW", x.points(1, 0), 0);
        due("POINTS in a new LESSON", x.points(0, 0), 0);
        due("LEARNT by a new SHADOW", x.learnt(1), 0);
        due("QUARRELS of a new SHADOW", x.quarrels(1), 0);
        due("HOURS of a new LESSON", x.shadowOf(0, 5), 8);
    }

    private static void paces(int kind, int quick, int[] want) {
        ShadowSchool x = alike(1, kind, quick, 1);
        x.dusk(16);
        for (int h = 0; h <= 16; h++) {
            due("PACE of KIND " + kind + " in " + h, x.shadowOf(0, 4), want[h]);
            x.hour();
        }
    }

    static void paceOfJoined() {
        of(3, "PACE in an HOUR: shadow: QUICK. joined: as shadow; 0, if the HOUR by 4 leaves 3.");
        paces(1, 7, new int[] {7, 7, 7, 0, 7, 7, 7, 0, 7, 7, 7, 0, 7, 7, 7, 0, 7});
    }

    static void paceOfGifted() {
        of(3, "gifted: twice that of shadow; 0 in HOUR 6.");
        paces(2, 7, new int[] {14, 14, 14, 14, 14, 14, 0, 14, 14, 14, 14, 14, 14, 14, 14, 14, 14});
    }

    static void paceOfColoured() {
        of(3, "coloured: as gifted, and 1.");
        paces(3, 7, new int[] {15, 15, 15, 15, 15, 15, 1, 15, 15, 15, 15, 15, 15, 15, 15, 15, 15});
    }

    static void paceOfSlow() {
        of(3, "slow: half of that of shadow, and 1.");
        int[] want = {0, 1, 2, 2, 3, 3, 4, 4, 5, 5};
        for (int quick = 1; quick <= 9; quick++) {
            due("QUICK " + quick, alike(1, 4, quick, 1).shadowOf(0, 4), want[quick]);
        }
        paces(4, 7, new int[] {4, 4, 4, 4, 4, 4, 4, 4, 4, 4, 4, 4, 4, 4, 4, 4, 4});
    }

    static void paceOfBorrowed() {
        of(3, "borrowed: as slow, and what the HOUR by 4 leaves.");
        paces(5, 7, new int[] {4, 5, 6, 7, 4, 5, 6, 7, 4, 5, 6, 7, 4, 5, 6, 7, 4});
    }

    private static void lengths(int kind, int tall, int[] want) {
        ShadowSchool x = alike(1, kind, 1, tall);
        x.dusk(16);
        for (int h = 0; h <= 16; h++) {
            due("LENGTH of KIND " + kind + " in " + h, x.shadowOf(0, 6), want[h]);
            x.hour();
        }
    }

    static void lengthOfShadow() {
        of(3, "LENGTH in an HOUR: shadow: TALL times how far the HOUR is from 6. joined, gifted: as shadow.");
        int[] want = {24, 20, 16, 12, 8, 4, 0, 4, 8, 12, 16, 20, 24, 28, 32, 36, 40};
        lengths(1, 4, want);
        lengths(2, 4, want);
    }

    static void lengthOfColoured() {
        of(3, "coloured: as gifted, less 2 (0 at least).");
        lengths(3, 1, new int[] {4, 3, 2, 1, 0, 0, 0, 0, 0, 1, 2, 3, 4, 5, 6, 7, 8});
        lengths(3, 9, new int[] {52, 43, 34, 25, 16, 7, 0, 7, 16, 25, 34, 43, 52, 61, 70, 79, 88});
    }

    static void lengthOfSlow() {
        of(3, "slow: TALL times how far the HOUR is from 7.");
        lengths(4, 4, new int[] {28, 24, 20, 16, 12, 8, 4, 0, 4, 8, 12, 16, 20, 24, 28, 32, 36});
    }

    static void lengthOfBorrowed() {
        of(3, "borrowed: as slow, and 3.");
        lengths(5, 4, new int[] {31, 27, 23, 19, 15, 11, 7, 3, 7, 11, 15, 19, 23, 27, 31, 35, 39});
    }

    // ---- promises 2 to 11

    static void shadowOfAKind() {
        of(2, "A SHADOW of a KIND 1 to 5: its number.");
        ShadowSchool x = new ShadowSchool();
        for (int kind = 1; kind <= 5; kind++) {
            due("its number", x.shadow(kind, 1, 1), kind - 1);
            due("its KIND", x.shadowOf(kind - 1, 0), kind);
        }
    }

    static void shadowBad() {
        of(2, "BAD;");
        for (int b : outside(1, 5)) {
            refused("KIND " + b, Sentences::school, x -> x.shadow(b, 1, 1), BAD);
        }
        for (int b : outside(1, 9)) {
            refused("QUICK " + b, Sentences::school, x -> x.shadow(5, b, 1), BAD);
            refused("TALL " + b, Sentences::school, x -> x.shadow(5, 1, b), BAD);
        }
    }

    static void shadowFull() {
        of(2, "FULL.");
        refused("a seventh", Sentences::full, x -> x.shadow(5, 9, 9), FULL);
        due("a sixth", alike(5, 1, 1, 1).shadow(5, 9, 9), 5);
    }

    static void shadowOfWhat() {
        of(3, "Of a SHADOW: what = 0 KIND, 1 QUICK, 2 TALL, 3 how many LESSONS it has LEARNT, 4 PACE in HOUR,");
        ShadowSchool x = new ShadowSchool();
        x.shadow(5, 4, 8);
        x.shadow(3, 9, 7);
        x.lesson(20, -1, 0, 15, 1);
        x.lesson(2, -1, 0, 15, 1);
        x.lesson(3, -1, 1, 15, 1);
        int[] want = {3, 9, 7, 0, 19};
        for (int what = 0; what <= 4; what++) {
            due("what " + what, x.shadowOf(1, what), want[what]);
        }
        x.hour();
        due("LEARNT one", x.shadowOf(1, 3), 1);
        x.hour();
        due("LEARNT two, not a set of them", x.shadowOf(1, 3), 2);
        due("of the other", x.shadowOf(0, 3), 0);
        due("its PACE in 2", x.shadowOf(0, 4), 5);
    }

    static void shadowOfChoice() {
        of(3, "5 CHOICE in HOUR, if nobody sat by then (8: none),");
        ShadowSchool x = alike(2, 4, 1, 1);
        due("no LESSONS", x.shadowOf(1, 5), 8);
        x.lesson(20, -1, 1, 2, 1);
        int[] want = {8, 0, 0, 8};
        for (int h = 0; h < 4; h++) {
            due("the one place, in " + h, x.shadowOf(1, 5), want[h]);
            due("of both, in " + h, x.shadowOf(0, 5), want[h]);
            x.hour();
        }
        x = alike(1, 4, 1, 1);
        x.lesson(1, -1, 0, 15, 1);
        due("LESSON 0", x.shadowOf(0, 5), 0);
        x.hour();
        due("it is LEARNT", x.shadowOf(0, 5), 8);
        for (int l = 1; l < 8; l++) {
            x.lesson(20, l == 7 ? -1 : l - 1, l == 7 ? 1 : 15, 15, 1);
        }
        due("LESSON 7", x.shadowOf(0, 5), 7);
    }

    static void shadowOfLength() {
        of(3, "6 LENGTH in HOUR.");
        ShadowSchool x = new ShadowSchool();
        x.shadow(1, 1, 1);
        x.shadow(5, 1, 9);
        due("in 0", x.shadowOf(1, 6), 66);
        x.hour();
        due("in 1", x.shadowOf(1, 6), 57);
        due("of the other", x.shadowOf(0, 6), 5);
    }

    static void shadowOfBad() {
        of(3, "BAD.");
        for (int what = 0; what <= 6; what++) {
            int which = what;
            for (int b : outside(0, 2)) {
                refused("SHADOW " + b, Sentences::school, x -> x.shadowOf(b, which), BAD);
            }
            due("nobody", new ShadowSchool().shadowOf(0, what), BAD);
        }
        for (int b : outside(0, 6)) {
            refused("what " + b, Sentences::school, x -> x.shadowOf(0, b), BAD);
        }
    }

    static void changeBecomes() {
        of(4, "QUICK (what 1), TALL (2) of a SHADOW becomes v: what it was.");
        ShadowSchool x = school();
        due("QUICK was", x.change(2, 1, 9), 4);
        due("QUICK was 9", x.change(2, 1, 1), 9);
        due("TALL was", x.change(2, 2, 9), 2);
        due("TALL was 9", x.change(2, 2, 1), 9);
        due("the same", x.change(2, 2, 1), 1);
        due("QUICK is", x.shadowOf(2, 1), 1);
        due("TALL is", x.shadowOf(2, 2), 1);
        due("QUICK of another", x.shadowOf(1, 1), 2);
        due("TALL of another", x.shadowOf(1, 2), 5);
        due("PACE by it", x.shadowOf(2, 4), 3);
        due("LENGTH by it", x.shadowOf(2, 6), 8);
    }

    static void changeBad() {
        of(4, "BAD.");
        for (int b : outside(0, 2)) {
            refused("SHADOW " + b, Sentences::school, x -> x.change(b, 1, 5), BAD);
        }
        for (int b : outside(1, 2)) {
            refused("what " + b, Sentences::school, x -> x.change(0, b, 5), BAD);
        }
        for (int b : outside(1, 9)) {
            refused("QUICK " + b, Sentences::school, x -> x.change(2, 1, b), BAD);
            refused("TALL " + b, Sentences::school, x -> x.change(2, 2, b), BAD);
        }
    }

    static void remakeBecomes() {
        of(5, "A SHADOW becomes one of another KIND (1 to 5): the KIND that it was.");
        ShadowSchool x = school();
        due("to the greatest", x.remake(0, 5), 1);
        due("to the least", x.remake(0, 1), 5);
        due("it is", x.shadowOf(0, 0), 1);
        for (int kind = 2; kind <= 5; kind++) {
            due("was", x.remake(0, kind), kind - 1);
            due("is", x.shadowOf(0, 0), kind);
        }
        due("of another", x.shadowOf(1, 0), 2);
        due("POINTS stay", x.points(0, 0), 6);
        due("what it has LEARNT stays", x.learnt(0), 1);
        due("whom it QUARRELS with stays", x.quarrels(0), 4);
        due("QUICK stays", x.shadowOf(0, 1), 3);
        due("PACE by it", x.shadowOf(0, 4), 4);
        due("LENGTH by it", x.shadowOf(0, 6), 23);
    }

    static void remakeBad() {
        of(5, "BAD.");
        for (int b : outside(0, 2)) {
            refused("SHADOW " + b, Sentences::school, x -> x.remake(b, 3), BAD);
        }
        for (int b : outside(1, 5)) {
            refused("KIND " + b, Sentences::school, x -> x.remake(0, b), BAD);
        }
    }

    static void lessonNumber() {
        of(6, "A LESSON: its number.");
        ShadowSchool x = school();
        due("the fourth", x.lesson(20, 2, 15, 15, 6), 3);
        due("the fifth", x.lesson(1, -1, 0, 0, 1), 4);
        due("many", x.many(2), 5);
    }

    static void lessonBadAndFull() {
        of(6, "BAD; FULL.");
        refused("HARD", Sentences::school, x -> x.lesson(0, -1, 0, 0, 1), BAD);
        refused("NEED", Sentences::school, x -> x.lesson(1, -2, 0, 0, 1), BAD);
        refused("FROM", Sentences::school, x -> x.lesson(1, -1, -1, 0, 1), BAD);
        refused("TO", Sentences::school, x -> x.lesson(1, -1, 0, 16, 1), BAD);
        refused("ROOM", Sentences::school, x -> x.lesson(1, -1, 0, 0, 0), BAD);
        refused("a ninth", Sentences::full, x -> x.lesson(20, 7, 15, 15, 6), FULL);
    }

    static void lessonOfWhat() {
        of(7, "Of a LESSON: what = 0 HARD, 1 NEED, 2 FROM, 3 TO, 4 ROOM, 5 how many SHADOWS have LEARNT it.");
        ShadowSchool x = alike(6, 4, 9, 1);
        x.lesson(5, -1, 0, 14, 6);
        x.lesson(19, 0, 3, 9, 4);
        int[] first = {5, -1, 0, 14, 6, 0};
        int[] second = {19, 0, 3, 9, 4, 0};
        for (int what = 0; what <= 5; what++) {
            due("what " + what, x.lessonOf(0, what), first[what]);
            due("what " + what + " of the second", x.lessonOf(1, what), second[what]);
        }
        x.change(1, 1, 1);
        x.hour();
        due("five have LEARNT it", x.lessonOf(0, 5), 5);
        pass(x, 4);
        due("all six have", x.lessonOf(0, 5), 6);
        due("none the second", x.lessonOf(1, 5), 0);
        x = alike(2, 4, 1, 1);
        for (int l = 0; l < 8; l++) {
            x.lesson(1, -1, l == 7 ? 0 : 9, 15, 6);
        }
        x.hour();
        due("both the eighth", x.lessonOf(7, 5), 2);
        due("none the seventh", x.lessonOf(6, 5), 0);
    }

    static void lessonOfBad() {
        of(7, "BAD.");
        for (int what = 0; what <= 5; what++) {
            int which = what;
            for (int b : outside(0, 2)) {
                refused("LESSON " + b, Sentences::school, x -> x.lessonOf(b, which), BAD);
            }
        }
        for (int b : outside(0, 5)) {
            refused("what " + b, Sentences::school, x -> x.lessonOf(0, b), BAD);
        }
    }

    static void pointsOf() {
        of(8, "POINTS of a SHADOW in a LESSON.");
        ShadowSchool x = alike(2, 4, 9, 1);
        x.lesson(6, -1, 0, 15, 1);
        x.lesson(20, -1, 0, 15, 1);
        x.hour();
        due("5", x.points(0, 0), 5);
        due("none in the other", x.points(0, 1), 0);
        due("of the other", x.points(1, 1), 5);
        x.hour();
        due("more than HARD", x.points(0, 0), 10);
        pass(x, 9);
        due("no more, once it is LEARNT", x.points(0, 0), 10);
    }

    static void pointsBad() {
        of(8, "BAD.");
        for (int b : outside(0, 2)) {
            refused("SHADOW " + b, Sentences::school, x -> x.points(b, 0), BAD);
            refused("LESSON " + b, Sentences::school, x -> x.points(0, b), BAD);
        }
        due("SHADOWS, no LESSONS", alike(1, 1, 1, 1).points(0, 0), BAD);
    }

    static void duskBecomes() {
        of(9, "DUSK becomes v: what it was.");
        ShadowSchool x = school();
        due("was", x.dusk(16), 10);
        due("was 16", x.dusk(3), 16);
        due("is", x.state(1), 3);
        due("the same", x.dusk(3), 3);
    }

    static void duskBad() {
        of(9, "BAD; STATE: v is below HOUR.");
        for (int b : outside(1, 16)) {
            refused("DUSK " + b, Sentences::school, x -> x.dusk(b), BAD);
        }
        refused("below HOUR by 1", Sentences::school, x -> x.dusk(1), STATE);
        ShadowSchool x = school();
        due("just HOUR", x.dusk(2), 10);
        due("it is OVER", x.state(3), 1);
        x.dusk(16);
        pass(x, 14);
        due("15 in HOUR 16", x.dusk(15), STATE);
        due("16 in HOUR 16", x.dusk(16), 16);
    }

    static void anewAgain() {
        of(10, "HOUR is 0 again, SCORE 0, all POINTS are 0, nothing is LEARNT: what HOUR was.");
        ShadowSchool x = school();
        due("SCORE was", x.state(2), 6);
        due("LEARNT was", x.learnt(0), 1);
        due("what HOUR was", x.anew(), 2);
        due("HOUR", x.state(0), 0);
        due("SCORE", x.state(2), 0);
        for (int p = 0; p < 3; p++) {
            due("LEARNT", x.learnt(p), 0);
            for (int l = 0; l < 3; l++) {
                due("POINTS", x.points(p, l), 0);
            }
        }
        due("DUSK stays", x.state(1), 10);
        due("SHADOWS stay", x.many(0), 3);
        due("LESSONS stay", x.many(2), 3);
        due("RULES stay", x.many(1), 1);
        due("REPORTS stay", x.many(3), 2);
        due("QUARRELS stay", x.many(7), 1);
        due("z stays", x.seed(0), 77);
        due("in HOUR 0", x.anew(), 0);
        x.dusk(16);
        pass(x, 16);
        due("when it is OVER", x.anew(), 16);
        due("not OVER", x.state(3), 0);
    }

    static void stateWhat() {
        of(11, "What = 0 HOUR, 1 DUSK, 2 SCORE, 3 1 if it is OVER, else 0.");
        ShadowSchool x = school();
        int[] want = {2, 10, 6, 0};
        for (int what = 0; what <= 3; what++) {
            due("what " + what, x.state(what), want[what]);
        }
        x.dusk(2);
        due("OVER", x.state(3), 1);
    }

    static void stateBad() {
        of(11, "BAD.");
        for (int b : outside(0, 3)) {
            refused("what " + b, Sentences::school, x -> x.state(b), BAD);
        }
    }
}
