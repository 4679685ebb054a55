/** Sentences of how an hour goes by and what hours are worth: promises 14 to 22, and the Terms that they go by. */
final class HoursSentences extends Sentences {
    /** SHADOWS of PACE 1 in every HOUR. */
    private static ShadowSchool steady(int count) {
        return alike(count, 4, 1, 1);
    }

    // ---- Terms

    static void openIfNotLearnt() {
        of(14, "A LESSON is OPEN to a SHADOW in an HOUR, if it hasn't LEARNT it,");
        ShadowSchool x = steady(2);
        x.lesson(1, -1, 0, 15, 1);
        x.hour();
        due("the first has LEARNT it", x.learnt(0), 1);
        due("so it isn't OPEN to it", x.shadowOf(0, 5), 8);
        due("to the other it is", x.shadowOf(1, 5), 0);
        x.hour();
        due("and it sits there", x.learnt(1), 1);
        due("POINTS stay", x.points(0, 0), 1);
    }

    static void openIfNeedIsLearnt() {
        of(14, "has LEARNT its NEED (if it has one),");
        ShadowSchool x = steady(2);
        x.lesson(2, -1, 0, 15, 1);
        x.lesson(1, 0, 0, 15, 6);
        x.hour();
        due("not yet", x.points(0, 1), 0);
        x.hour();
        due("NEED is LEARNT, not in the same HOUR", x.points(0, 1), 0);
        x.hour();
        due("LEARNT then", x.learnt(0), 3);
        due("another's doesn't count", x.points(1, 1), 0);
        // A chain of all eight takes an HOUR each.
        x = steady(1);
        for (int l = 0; l < 8; l++) {
            x.lesson(1, l - 1, 0, 15, 1);
        }
        for (int l = 0; l < 8; l++) {
            due("LESSON " + l, x.shadowOf(0, 5), l);
            x.hour();
        }
        due("all", x.learnt(0), 255);
    }

    static void openFromTo() {
        of(14, "the HOUR is from FROM to TO,");
        ShadowSchool x = steady(1);
        x.dusk(16);
        x.lesson(20, -1, 3, 5, 1);
        x.lesson(20, -1, 7, 7, 1);
        x.lesson(20, -1, 15, 15, 1);
        x.lesson(20, -1, 0, 0, 1);
        int[] want = {3, 8, 8, 0, 0, 0, 8, 1, 8, 8, 8, 8, 8, 8, 8, 2};
        for (int h = 0; h < 16; h++) {
            due("in " + h, x.shadowOf(0, 5), want[h]);
            x.hour();
        }
        due("3, 4 and 5", x.points(0, 0), 3);
        due("7 alone", x.points(0, 1), 1);
        due("15 alone", x.points(0, 2), 1);
        due("0 alone", x.points(0, 3), 1);
    }

    static void openIfThereIsAPlace() {
        of(14, "and fewer SHADOWS than ROOM sit in it by then.");
        for (int room = 1; room <= 6; room++) {
            ShadowSchool x = steady(6);
            x.lesson(20, -1, 0, 15, room);
            x.hour();
            for (int p = 0; p < 6; p++) {
                due("ROOM " + room + ", SHADOW " + p, x.points(p, 0), p < room ? 1 : 0);
            }
            x.hour();
            due("places are free again", x.points(0, 0), 2);
            due("the last place, too", x.points(room - 1, 0), 2);
        }
        // Who sits with PACE 0 takes a place, and who LEARNT it in this HOUR still sits there.
        ShadowSchool x = alike(1, 1, 9, 1);
        x.shadow(4, 1, 1);
        x.lesson(20, -1, 3, 15, 1);
        x.lesson(1, -1, 0, 0, 1);
        x.hour();
        due("a place of who LEARNT it", x.points(1, 1), 0);
        pass(x, 3);
        due("PACE 0", x.points(0, 0), 0);
        due("its place is taken", x.points(1, 0), 0);
    }

    static void choiceIsTheLeast() {
        of(3, "CHOICE: the least that is OPEN.");
        ShadowSchool x = steady(1);
        x.lesson(20, -1, 4, 15, 1);
        x.lesson(20, -1, 2, 15, 1);
        x.lesson(2, -1, 0, 15, 1);
        x.lesson(20, -1, 0, 15, 1);
        int[] want = {2, 2, 1, 1, 0};
        for (int h = 0; h < 5; h++) {
            due("in " + h, x.shadowOf(0, 5), want[h]);
            x.hour();
        }
        x = steady(3);
        x.lesson(20, -1, 0, 15, 1);
        x.lesson(20, -1, 0, 15, 1);
        x.hour();
        due("who comes first", x.points(0, 0), 1);
        due("who comes then: the next", x.points(1, 1), 1);
        due("who comes last: none", x.points(2, 0) + x.points(2, 1), 0);
    }

    private static int choiceBy(String text) {
        ShadowSchool x = new ShadowSchool();
        x.shadow(3, 5, 5);
        x.lesson(9, -1, 0, 15, 1);
        x.lesson(7, -1, 0, 15, 1);
        x.lesson(8, -1, 0, 15, 1);
        return read(x, text) < 0 ? -1 : x.shadowOf(0, 5);
    }

    static void firstRuleThatHolds() {
        of(3, "A RULE changes it: the first of THE RULES whose KIND is its or above it, and whose condition holds:");
        due("no RULE", choiceBy(""), 0);
        due("one", choiceBy("coloured last;"), 2);
        due("the first of two", choiceBy("coloured easy; coloured last;"), 1);
        due("the first of two, above it", choiceBy("shadow last; coloured easy;"), 2);
        due("one above it", choiceBy("gifted last;"), 2);
        due("one beside it", choiceBy("slow last;"), 0);
        due("another KIND's first", choiceBy("joined easy; slow easy; borrowed easy; gifted last;"), 2);
        due("the first doesn't hold", choiceBy("coloured if 1 > 1 easy; coloured last;"), 2);
        due("none holds", choiceBy("coloured if 1 > 1 easy; gifted if 1 < 1 last; shadow if 1 = 0 play;"), 0);
        due("the eighth", choiceBy("joined easy;".repeat(7) + "gifted last;"), 2);
    }

    static void byLast() {
        of(3, "by last: the greatest;");
        ShadowSchool x = steady(2);
        for (int l = 0; l < 8; l++) {
            x.lesson(2, l == 6 ? 5 : -1, 0, l == 4 ? 0 : 15, 1);
        }
        read(x, "shadow last;");
        due("of all", x.shadowOf(0, 5), 7);
        pass(x, 2);
        due("the first sat there", x.learnt(0), 128);
        due("the second where the greatest place was", x.learnt(1), 32);
        due("6 lacks its NEED", x.shadowOf(0, 5), 5);
        due("of the other it has it", x.shadowOf(1, 5), 7);
        x = steady(1);
        x.lesson(1, -1, 0, 15, 1);
        read(x, "shadow last;");
        due("the only one", x.shadowOf(0, 5), 0);
        x.hour();
        due("none is OPEN", x.shadowOf(0, 5), 8);
    }

    static void byEasy() {
        of(3, "by easy: that of which it lacks fewest POINTS (HARD less those that it has), of several the least;");
        ShadowSchool x = steady(1);
        x.lesson(20, -1, 0, 15, 1);
        x.lesson(6, -1, 2, 15, 1);
        x.lesson(5, -1, 5, 15, 1);
        x.lesson(5, -1, 2, 15, 1);
        x.lesson(3, -1, 4, 4, 1);
        read(x, "shadow easy;");
        due("one that lacks 20", x.shadowOf(0, 5), 0);
        pass(x, 2);
        due("18, 6, 5", x.shadowOf(0, 5), 3);
        pass(x, 2);
        due("18, 6, 3 and 3: the least", x.shadowOf(0, 5), 3);
        pass(x, 1);
        due("18, 6, 5, 2", x.shadowOf(0, 5), 3);
        pass(x, 2);
        due("18, 6, 5 and LEARNT", x.shadowOf(0, 5), 2);
        x.rules();
        due("POINTS", x.points(0, 3), 5);
        // Alike: the least of all, and by what it has rather than by HARD.
        x = steady(1);
        x.lesson(4, -1, 0, 15, 1);
        x.lesson(4, -1, 0, 15, 1);
        x.lesson(3, -1, 1, 15, 1);
        read(x, "shadow easy;");
        due("4 and 4", x.shadowOf(0, 5), 0);
        x.hour();
        due("4 less 1, 4, 3", x.shadowOf(0, 5), 0);
        x.hour();
        due("4 less 2, 4, 3", x.shadowOf(0, 5), 0);
        x = steady(1);
        for (int l = 0; l < 8; l++) {
            x.lesson(20 - l, -1, 0, 15, 1);
        }
        read(x, "shadow easy;");
        due("the eighth of eight", x.shadowOf(0, 5), 7);
    }

    static void byPlay() {
        of(3, "by play: none.");
        ShadowSchool x = steady(2);
        x.lesson(1, -1, 0, 15, 1);
        read(x, "shadow if number = 0 play;");
        due("none", x.shadowOf(0, 5), 8);
        due("of the other", x.shadowOf(1, 5), 0);
        due("WORTH", x.hour(), 1);
        due("who plays takes no place", x.learnt(1), 1);
        due("and has no POINTS", x.points(0, 0), 0);
    }

    static void hourBySittingInTurn() {
        of(14, "An HOUR goes by: SHADOWS, by numbers, each but who is SENT OUT, sit in their CHOICES "
            + "(as all is by then);");
        ShadowSchool x = steady(3);
        x.lesson(20, -1, 0, 15, 1);
        x.lesson(20, -1, 0, 15, 1);
        bytes(x, 0, 0, 1, 2, 3);
        int[][] want = {{1, 0, 0, 1, 0, 0}, {0, 0, 1, 0, 0, 1}, {1, 0, 0, 0, 0, 1}, {1, 0, 0, 1, 0, 0}};
        int[] have = new int[6];
        for (int a = 0; a <= 3; a++) {
            x.goAll(0, a, 1);
            for (int k = 0; k < 6; k++) {
                have[k] += want[a][k];
                due("ACT " + a + ": SHADOW " + k / 2 + " in " + k % 2, x.points(k / 2, k % 2), have[k]);
            }
        }
    }

    static void pointsByPace() {
        of(14, "each that sits has POINTS in that more by its PACE;");
        ShadowSchool x = ofEach(3, 1);
        x.lesson(20, -1, 0, 15, 6);
        int[][] want = {{3, 6, 7, 2, 2}, {6, 12, 14, 4, 5}, {9, 18, 21, 6, 9}, {9, 24, 21, 8, 14}};
        for (int h = 0; h < 4; h++) {
            x.hour();
            for (int p = 0; p < 5; p++) {
                due("SHADOW " + p + " behind " + h, x.points(p, 0), want[h][p]);
            }
        }
        x = alike(1, 2, 9, 1);
        x.shadow(3, 9, 1);
        x.lesson(20, -1, 6, 6, 6);
        pass(x, 7);
        due("gifted in 6", x.points(0, 0), 0);
        due("coloured in 6", x.points(1, 0), 1);
    }

    static void learntWithHardOrMore() {
        of(14, "with HARD or more it has LEARNT it.");
        ShadowSchool x = new ShadowSchool();
        x.shadow(1, 4, 1);
        x.shadow(1, 5, 1);
        x.shadow(1, 6, 1);
        x.lesson(5, -1, 0, 15, 6);
        x.hour();
        due("1 less", x.learnt(0), 0);
        due("just so many", x.learnt(1), 1);
        due("1 more", x.learnt(2), 1);
        x.hour();
        due("by then", x.learnt(0), 1);
    }

    static void worthOfAnHour() {
        of(14, "It is WORTH HARD of each LESSON that a SHADOW LEARNT in it, together;");
        ShadowSchool x = new ShadowSchool();
        x.shadow(1, 5, 1);
        x.shadow(1, 5, 1);
        x.shadow(1, 5, 1);
        x.shadow(1, 4, 1);
        x.lesson(5, -1, 0, 15, 2);
        x.lesson(3, -1, 0, 15, 2);
        due("5 twice, 3 twice", x.hour(), 16);
        due("LEARNT", x.learnt(0), 1);
        due("5 once, 3 twice", x.hour(), 11);
        due("POINTS above HARD count nothing", x.points(2, 1), 5);
        due("5 once more", x.hour(), 5);
        due("none", x.hour(), 0);
    }

    static void hourIsOneMore() {
        of(14, "HOUR is 1 more.");
        ShadowSchool x = steady(1);
        x.hour();
        due("behind hour()", x.state(0), 1);
        x.lot();
        due("behind lot()", x.state(0), 2);
        bytes(x, 0, 1);
        x.goAll(0, 0, 1);
        due("behind goAll()", x.state(0), 3);
    }

    // ---- promises 14 to 22

    static void hour() {
        of(14, "An HOUR goes by (nobody SENT OUT): what it was WORTH.");
        ShadowSchool x = steady(6);
        x.lesson(1, -1, 0, 0, 6);
        x.lesson(20, -1, 1, 15, 6);
        due("all six", x.hour(), 6);
        due("none", x.hour(), 0);
        for (int p = 0; p < 6; p++) {
            due("SHADOW " + p + " sat there", x.points(p, 1), 1);
        }
        due("without any SHADOWS", new ShadowSchool().hour(), 0);
    }

    static void hourOver() {
        of(14, "STATE: it is OVER.");
        refused("in DUSK", Sentences::over, ShadowSchool::hour, STATE);
        ShadowSchool x = school();
        x.dusk(3);
        due("ahead of it", x.hour(), 9);
        due("in it", x.hour(), STATE);
        due("in it still", x.hour(), STATE);
        due("HOUR stays", x.state(0), 3);
    }

    static void learntAsASet() {
        of(15, "LESSONS that a SHADOW has LEARNT, as a set.");
        ShadowSchool x = steady(2);
        for (int l = 0; l < 8; l++) {
            x.lesson(1, -1, 0, 15, 1);
        }
        int set = 0;
        for (int l = 0; l < 8; l++) {
            due("of the first", x.learnt(0), set);
            set |= 1 << l;
            x.hour();
        }
        due("all eight", x.learnt(0), 255);
        due("the other came to the last in turn", x.learnt(1), 255);
    }

    static void learntBad() {
        of(15, "BAD.");
        for (int b : outside(0, 2)) {
            refused("SHADOW " + b, Sentences::school, x -> x.learnt(b), BAD);
        }
    }

    static void onN() {
        of(16, "What n (0 to 16) HOURS of THE REST (fewer, if it is OVER) are WORTH.");
        ShadowSchool x = steady(1);
        x.dusk(16);
        for (int l = 0; l < 8; l++) {
            x.lesson(2, l - 1, 0, 15, 1);
        }
        for (int n = 0; n <= 16; n++) {
            due("on " + n, x.on(n), n / 2 * 2);
        }
        x.dusk(7);
        due("just to DUSK", x.on(7), 6);
        due("fewer", x.on(16), 6);
        x.hour();
        due("from HOUR 1 one", x.on(1), 2);
        due("from HOUR 1 none", x.on(0), 0);
        pass(x, 6);
        due("OVER", x.on(16), 0);
        due("SCORE counts nothing", x.state(2), 6);
    }

    static void onBad() {
        of(16, "BAD.");
        for (int b : outside(0, 16)) {
            refused("n " + b, Sentences::school, x -> x.on(b), BAD);
        }
    }

    static void when() {
        of(17, "The HOUR of THE REST in which a SHADOW has LEARNT a LESSON.");
        ShadowSchool x = steady(2);
        x.dusk(16);
        x.lesson(1, -1, 0, 15, 1);
        x.lesson(15, -1, 0, 15, 6);
        due("the first HOUR", x.when(0, 0), 0);
        due("the last HOUR", x.when(0, 1), 15);
        due("of the other", x.when(1, 0), 1);
        due("of the other, too", x.when(1, 1), 15);
        x.hour();
        due("HOUR, not how many yet", x.when(1, 0), 1);
        due("the last HOUR still", x.when(0, 1), 15);
    }

    static void whenBadOrNone() {
        of(17, "BAD; NONE (also if it has by now).");
        for (int b : outside(0, 2)) {
            refused("SHADOW " + b, Sentences::school, x -> x.when(b, 0), BAD);
            refused("LESSON " + b, Sentences::school, x -> x.when(0, b), BAD);
        }
        refused("by now", Sentences::school, x -> x.when(0, 0), NONE);
        refused("OVER", Sentences::over, x -> x.when(1, 2), NONE);
        ShadowSchool x = steady(1);
        x.lesson(3, -1, 0, 15, 1);
        x.dusk(2);
        due("1 HOUR too late", x.when(0, 0), NONE);
        x.dusk(3);
        due("just in time", x.when(0, 0), 2);
    }

    static void letGo() {
        of(18, "SHADOWS that have LEARNT all LESSONS behind THE REST, as a set.");
        ShadowSchool x = new ShadowSchool();
        due("nobody", x.letGo(), 0);
        for (int p = 0; p < 6; p++) {
            x.shadow(4, 1 + p, 1);
        }
        due("no LESSONS: all", x.letGo(), 63);
        x.lesson(9, -1, 0, 15, 6);
        x.lesson(3, -1, 0, 15, 6);
        // PACE 1, 2, 2, 3, 3, 4: 12, 7, 7, 4, 4 and 4 HOURS.
        due("all by 12", x.letGo(), 63);
        x.dusk(11);
        due("but the first", x.letGo(), 62);
        x.dusk(6);
        due("but three", x.letGo(), 56);
        x.dusk(3);
        due("none", x.letGo(), 0);
        x.dusk(4);
        pass(x, 4);
        due("OVER, by now", x.letGo(), 56);
        x.lesson(1, -1, 0, 15, 6);
        due("one LESSON more", x.letGo(), 0);
        x = steady(1);
        for (int l = 0; l < 8; l++) {
            x.lesson(1, l - 1, 0, 15, 6);
        }
        x.dusk(8);
        due("all eight", x.letGo(), 1);
        x.dusk(7);
        due("all but the eighth", x.letGo(), 0);
    }

    static void crowd() {
        of(19, "The HOUR of THE REST in which most SHADOWS sit in a LESSON; of several the least.");
        ShadowSchool x = steady(3);
        x.dusk(16);
        x.lesson(2, -1, 0, 15, 1);
        x.lesson(20, -1, 1, 15, 6);
        x.lesson(1, -1, 15, 15, 6);
        // SHADOW 0 sits in LESSON 0 in 0 and 1, then 1 in 2 and 3, then 2 in 4 and 5; all three in LESSON 1 from 6 on.
        due("one at most: the first", x.crowd(0), 0);
        due("three at last", x.crowd(1), 6);
        due("nobody ever: the first", x.crowd(2), 0);
        pass(x, 1);
        due("from 1 on", x.crowd(0), 1);
        due("nobody from 1 on", x.crowd(2), 1);
        pass(x, 7);
        due("from 8 on", x.crowd(1), 8);
        due("nobody from 8 on", x.crowd(0), 8);
        read(x, "shadow last;");
        due("the last HOUR", x.crowd(2), 15);
    }

    static void crowdBadOrNone() {
        of(19, "BAD; NONE: it is OVER.");
        for (int b : outside(0, 2)) {
            refused("LESSON " + b, Sentences::school, x -> x.crowd(b), BAD);
        }
        refused("OVER", Sentences::over, x -> x.crowd(2), NONE);
        ShadowSchool x = school();
        x.dusk(3);
        due("one HOUR yet", x.crowd(2), 2);
    }

    static void quickFor() {
        of(20, "QUICK with which a SHADOW makes THE REST WORTH most; of several the least.");
        for (int hard = 1; hard <= 9; hard++) {
            ShadowSchool x = alike(2, 1, 5, 1);
            x.dusk(1);
            x.lesson(hard, -1, 0, 0, 1);
            due("just so many, to LEARN " + hard, x.quickFor(0), hard);
            due("QUICK stays", x.shadowOf(0, 1), 5);
            due("of the other all are alike", x.quickFor(1), 1);
        }
        ShadowSchool x = alike(1, 1, 5, 1);
        x.dusk(1);
        x.lesson(10, -1, 0, 0, 1);
        due("10 can't be", x.quickFor(0), 1);
        due("OVER", over().quickFor(0), 1);
        // QUICK 3 LEARNS both LESSONS; quicker ones play.
        x = alike(1, 1, 5, 1);
        x.dusk(2);
        x.lesson(3, -1, 0, 15, 1);
        x.lesson(2, -1, 0, 15, 1);
        read(x, "shadow if quick > 3 play;");
        due("greater ones are WORTH less", x.quickFor(0), 3);
        // The last HOUR of 16 counts, too.
        x = alike(1, 4, 9, 1);
        x.dusk(16);
        x.lesson(2, -1, 15, 15, 1);
        due("in the last HOUR", x.quickFor(0), 2);
    }

    static void quickForBad() {
        of(20, "BAD.");
        for (int b : outside(0, 2)) {
            refused("SHADOW " + b, Sentences::school, x -> x.quickFor(b), BAD);
        }
    }

    static void letGoBy() {
        of(21, "The least QUICK with which it has LEARNT all LESSONS behind THE REST.");
        for (int hard = 1; hard <= 9; hard++) {
            ShadowSchool x = alike(2, 1, 5, 1);
            x.dusk(1);
            x.lesson(hard, -1, 0, 0, 2);
            due("just so many, to LEARN " + hard, x.letGoBy(1), hard);
            due("QUICK stays", x.shadowOf(1, 1), 5);
        }
        ShadowSchool x = alike(1, 4, 9, 1);
        due("no LESSONS", x.letGoBy(0), 1);
        x.dusk(16);
        x.lesson(1, -1, 0, 15, 1);
        x.lesson(2, -1, 15, 15, 1);
        due("both, in the last HOUR", x.letGoBy(0), 2);
        x.hour();
        x.dusk(1);
        x.anew();
        due("one isn't all", x.letGoBy(0), NONE);
        x = alike(1, 1, 9, 1);
        x.dusk(1);
        x.lesson(9, -1, 0, 0, 1);
        x.hour();
        due("by now, when it is OVER", x.letGoBy(0), 1);
    }

    static void letGoByBadOrNone() {
        of(21, "BAD; NONE.");
        for (int b : outside(0, 2)) {
            refused("SHADOW " + b, Sentences::school, x -> x.letGoBy(b), BAD);
        }
        refused("OVER", Sentences::over, x -> x.letGoBy(2), NONE);
        ShadowSchool x = alike(2, 1, 5, 1);
        x.dusk(1);
        x.lesson(10, -1, 0, 0, 1);
        due("10 can't be", x.letGoBy(0), NONE);
        due("QUICK stays", x.shadowOf(0, 1), 5);
        x.change(0, 1, 9);
        due("no place for the other", x.letGoBy(1), NONE);
    }

    static void roomFor() {
        of(22, "ROOM with which a LESSON makes THE REST WORTH most; of several the least.");
        for (int quicks = 1; quicks <= 6; quicks++) {
            ShadowSchool x = alike(6, 1, 1, 1);
            for (int p = 0; p < quicks; p++) {
                x.change(p, 1, 5);
            }
            x.dusk(1);
            x.lesson(5, -1, 0, 0, 3);
            x.lesson(9, -1, 0, 0, 2);
            due("places for " + quicks, x.roomFor(0), quicks);
            due("ROOM stays", x.lessonOf(0, 4), 3);
            due("none LEARNS the other", x.roomFor(1), 1);
            due("its ROOM stays, too", x.lessonOf(1, 4), 2);
        }
        // With more places all go to the LESSON that they can't LEARN.
        ShadowSchool x = alike(3, 1, 5, 1);
        x.dusk(1);
        x.lesson(9, -1, 0, 0, 6);
        x.lesson(5, -1, 0, 0, 6);
        due("fewer places are WORTH more", x.roomFor(0), 1);
        due("OVER", over().roomFor(0), 1);
    }

    static void roomForBad() {
        of(22, "BAD.");
        for (int b : outside(0, 2)) {
            refused("LESSON " + b, Sentences::school, x -> x.roomFor(b), BAD);
        }
    }
}
