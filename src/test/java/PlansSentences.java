/** Sentences of plans, the game and rows: promises 29 to 35 and 43 to 46, and the Terms that they go by. */
final class PlansSentences extends Sentences {
    /**
     * SHADOW 0 (PACE 1) keeps the one place in LESSON 0 (HARD 8) from SHADOW 1 (PACE 8 but in HOUR 6); LESSON 1
     * (HARD 5, one place) needs LESSON 0. Each HOUR in which SHADOW 0 is SENT OUT is SHADOW 1's.
     */
    private static ShadowSchool narrow() {
        ShadowSchool x = new ShadowSchool();
        x.shadow(4, 1, 1);
        x.shadow(2, 4, 1);
        x.lesson(8, -1, 0, 15, 1);
        x.lesson(5, 0, 0, 15, 1);
        return x;
    }

    private static ShadowSchool narrowTill(int dusk) {
        ShadowSchool x = narrow();
        x.dusk(dusk);
        return x;
    }

    /** It is OVER. */
    private static ShadowSchool narrowOver() {
        ShadowSchool x = narrowTill(1);
        x.hour();
        return x;
    }

    /** SHADOWS that LEARN nothing, so that all PLANS are alike. */
    private static ShadowSchool idle(int count) {
        return alike(count, 1, 1, 1);
    }

    // ---- Terms

    static void planOfN() {
        of(31, "A PLAN of n: n HOURS (fewer, if it is OVER), ahead of each an ACT:");
        int[] plans = {1, 3, 9, 27, 81};
        for (int n = 0; n <= 4; n++) {
            due("PLANS of " + n, idle(2).ways(n), plans[n]);
        }
        for (int dusk = 1; dusk <= 5; dusk++) {
            ShadowSchool x = idle(2);
            x.dusk(dusk);
            due("PLANS of 4 till " + dusk, x.ways(4), plans[Math.min(4, dusk)]);
            x.hour();
            due("PLANS of 4 from 1 till " + dusk, x.ways(4), plans[dusk - 1]);
        }
    }

    static void actsOfPlans() {
        of(29, "0 nobody, or 1 more than the number of who is SENT OUT in it.");
        for (int count = 0; count <= 6; count++) {
            due("ACTS of " + count, idle(count).ways(1), count + 1);
        }
        due("nobody", narrow().on(1), 0);
        due("SHADOW 0 is SENT OUT", narrow().ith(1, 0), 1);
        due("by which SHADOW 1 LEARNS", narrow().best(1), 8);
        // SHADOW 5 alone doesn't play; ACT 6 is the one by which it is SENT OUT.
        ShadowSchool x = alike(6, 1, 1, 1);
        x.dusk(4);
        x.lesson(1, -1, 3, 3, 1);
        read(x, "shadow if number < 5 play;");
        due("joined ones have PACE 0 in 3", x.best(4), 0);
        x.remake(5, 4);
        due("the last LEARNS", x.best(4), 1);
        due("if it isn't SENT OUT in 3", x.ways(4), 7 * 7 * 7 * 6);
    }

    static void worthOfPlans() {
        of(29, "Its WORTH: of these HOURS together.");
        due("8 and 5", narrow().best(2), 13);
        ShadowSchool x = narrow();
        bytes(x, 0, 1);
        x.goAll(0, 0, 1);
        due("SCORE counts nothing", x.best(1), 5);
        due("nor what comes behind them", x.best(0), 0);
    }

    static void bestPlans() {
        of(31, "BEST: those with most WORTH;");
        ShadowSchool x = narrow();
        due("WORTH", x.best(2), 13);
        // 1, then 0 or 1: SHADOW 0 isn't in the way in LESSON 1.
        due("two of nine", x.ways(2), 2);
        due("one of three", x.ways(1), 1);
        due("all are alike", idle(6).ways(4), 2401);
    }

    static void firstOfTheBest() {
        of(30, "the FIRST of these is that with the lesser ACT where they are unlike first.");
        ShadowSchool x = narrow();
        due("1, 0 rather than 1, 1", x.ith(2, 0), 1);
        due("1, 0 rather than 1, 1", x.ith(2, 1), 0);
        // 0, 1, 0 rather than 1, 0, 0: both are WORTH 13.
        due("0 first", x.ith(3, 0), 0);
        due("then 1", x.ith(3, 1), 1);
        due("then 0", x.ith(3, 2), 0);
        // 0, 0, 1, 0 rather than 0, 1, ..
        due("0 of four", x.ith(4, 0), 0);
        due("0 then", x.ith(4, 1), 0);
        due("1 then", x.ith(4, 2), 1);
        due("0 at last", x.ith(4, 3), 0);
        for (int i = 0; i < 4; i++) {
            due("all alike, " + i, idle(6).ith(4, i), 0);
        }
        // What was asked ahead leaves nothing behind.
        x = narrow();
        due("1 is the best", x.ith(1, 0), 1);
        x.change(1, 1, 1);
        due("all are alike now", x.ith(1, 0), 0);
    }

    static void taughtBySome() {
        of(32, "TAUGHT by n, a set of LESSONS: the fewest ACTS that aren't 0 in a PLAN of n behind which each of "
            + "them is LEARNT by some SHADOW.");
        ShadowSchool x = narrow();
        due("LESSON 0 in one", x.taught(1, 1), 1);
        due("both in two", x.taught(2, 3), 1);
        due("LESSON 1 in two", x.taught(2, 2), 1);
        x.change(0, 1, 9);
        // PACE 5: SHADOW 0 LEARNS LESSON 0 by 2 HOURS, LESSON 1 in the third.
        due("none is SENT OUT in two", x.taught(2, 1), 0);
        due("none is SENT OUT in three", x.taught(3, 3), 0);
        due("in two still one", x.taught(2, 3), 1);
        // Each LESSON by another SHADOW: 0 and 1 must both go ahead of 2 and 3.
        x = alike(4, 4, 1, 1);
        x.change(2, 1, 9);
        x.change(3, 1, 9);
        x.lesson(5, -1, 0, 0, 1);
        x.lesson(5, -1, 1, 1, 1);
        read(x, "shadow if hour = 0 and number = 1 or hour = 0 and number = 3 play;");
        due("one of two HOURS", x.taught(2, 1), 1);
        due("not in HOUR 1 with one ACT", x.taught(2, 2), NONE);
        // PACE 5 by 4 HOURS: SHADOW 0 is SENT OUT in each of them.
        x = new ShadowSchool();
        x.shadow(4, 1, 1);
        x.shadow(4, 9, 1);
        x.lesson(20, -1, 0, 15, 1);
        due("four ACTS", x.taught(4, 1), 4);
        due("three don't do", x.taught(3, 1), NONE);
        x.hour();
        due("four from HOUR 1", x.taught(4, 1), 4);
    }

    static void barIsTheLeast() {
        of(33, "BAR: the least of them that is LEARNT by none behind any PLAN of n.");
        ShadowSchool x = narrow();
        due("both: the least", x.bars(0, 3), 0);
        due("LESSON 1 alone", x.bars(0, 2), 1);
        due("LESSON 1 in one", x.bars(1, 3), 1);
        due("LESSON 0 in one", x.bars(1, 1), NONE);
        due("none in two", x.bars(2, 3), NONE);
        x = idle(1);
        for (int l = 0; l < 8; l++) {
            x.lesson(20, -1, 0, 15, 1);
        }
        due("the last of eight", x.bars(4, 128), 7);
        due("the least of some", x.bars(4, 128 | 32 | 16), 4);
    }

    static void gameInTurn() {
        of(34, "GAME of n: two in turn, ahead of n HOURS (till it is OVER) each an ACT (also 0);");
        due("one", narrow().game(1), 8);
        due("two", narrow().game(2), 8);
        due("of two till 1", narrowTill(1).game(4), 8);
        due("of four till 2", narrowTill(2).game(4), 8);
        due("OVER", narrowOver().game(4), 0);
        // 0 is an ACT: with it alone SHADOW 0 LEARNS.
        ShadowSchool x = alike(1, 4, 1, 1);
        x.lesson(1, -1, 0, 0, 1);
        due("nobody is SENT OUT", x.game(1), 1);
        due("by ACT 0", x.play(1), 0);
    }

    static void gameOfMostAndLeast() {
        of(34, "the first one wants as much WORTH as can be, the other one as little.");
        // One HOUR each: a LESSON in HOUR 0 is LEARNT, one in HOUR 1 isn't, one in 2 is, one in 3 isn't.
        int[] want = {1, 1, 1 + 4, 1 + 4};
        for (int n = 1; n <= 4; n++) {
            ShadowSchool x = alike(1, 4, 9, 1);
            int[] hard = {1, 2, 4, 5};
            for (int h = 0; h < 4; h++) {
                x.lesson(hard[h], -1, h, h, 1);
            }
            due("of " + n, x.game(n), want[n - 1]);
        }
        ShadowSchool x = alike(1, 4, 9, 1);
        x.lesson(5, -1, 1, 1, 1);
        due("the other one sends it out", x.game(2), 0);
        x.hour();
        due("the first one doesn't", x.game(2), 5);
    }

    static void gameValue() {
        of(34, "VALUE: that, if both play as well as they can.");
        // Whoever sends SHADOW 0 out lets SHADOW 1 LEARN; behind that LESSON 1 is for SHADOW 1, if it isn't SENT OUT.
        due("of three", narrow().game(3), 13);
        due("the other one waits", narrow().play(3), 1);
        // What is best for one HOUR isn't, as the other one comes then.
        ShadowSchool x = alike(1, 4, 9, 1);
        x.lesson(5, -1, 0, 2, 1);
        x.lesson(5, 0, 1, 1, 1);
        due("LEARN at once, then it is SENT OUT", x.game(2), 5);
        x.lesson(5, 0, 2, 2, 1);
        due("and comes back", x.game(3), 10);
        // Two LEARN in each HOUR; the other one can send but one of them out.
        x = alike(2, 4, 9, 1);
        for (int l = 0; l < 8; l++) {
            x.lesson(5, -1, 0, 15, 6);
        }
        int[] want = {10, 15, 25, 30};
        for (int n = 1; n <= 4; n++) {
            due("both and one, of " + n, x.game(n), want[n - 1]);
        }
    }

    static void rowsOfTheFirst() {
        of(43, "ROWS of the FIRST of the BEST PLANS: for each HOUR (ACT, what it is WORTH, LESSONS that some SHADOW "
            + "has LEARNT behind it, as a set).");
        ShadowSchool x = narrow();
        int[][] want = {{0, 0, 0}, {0, 0, 0}, {1, 8, 1}, {0, 5, 3}};
        x.prove(4);
        for (int k = 0; k < 4; k++) {
            for (int what = 0; what < 3; what++) {
                due("ROW " + k + ", " + what, x.row(k, what), want[k][what]);
            }
        }
        x.dusk(16);
        bytes(x, 0, 1);
        x.goAll(0, 0, 1);
        x.prove(1);
        due("what was LEARNT ahead counts, too", x.row(0, 2), 3);
        due("WORTH of this HOUR alone", x.row(0, 1), 5);
        // SHADOWS have LEARNT other LESSONS: all together.
        x = alike(2, 4, 1, 1);
        x.lesson(1, -1, 0, 0, 1);
        x.lesson(1, -1, 0, 0, 1);
        x.prove(1);
        due("by two", x.row(0, 2), 3);
        due("WORTH together", x.row(0, 1), 2);
    }

    static void readerTakesRows() {
        of(46, "THE READER takes ROWS as a PLAN, from how it is now: right is one whose ACT is one, if it isn't OVER, "
            + "the others as they are then.");
        ShadowSchool x = narrow();
        x.prove(2);
        due("right", x.judge(), 0);
        for (int b : outside(0, 2)) {
            x.alterRow(1, 0, b);
            due("ACT " + b + " is none", x.judge(), 2);
        }
        x.alterRow(1, 0, 1);
        due("another ACT, as right", x.judge(), 0);
        x.alterRow(1, 0, 2);
        due("another ACT, by which it isn't WORTH that", x.judge(), 2);
        x.alterRow(1, 1, 0);
        due("nor LEARNT", x.judge(), 2);
        x.alterRow(1, 2, 1);
        due("all as they are then", x.judge(), 0);
        x.alterRow(0, 1, 7);
        due("WORTH 1 less", x.judge(), 1);
        x.alterRow(0, 1, 9);
        due("WORTH 1 more", x.judge(), 1);
        x.alterRow(0, 1, 8);
        x.alterRow(0, 2, 3);
        due("a LESSON more", x.judge(), 1);
        x.prove(2);
        x.dusk(1);
        due("OVER ahead of the second", x.judge(), 2);
        x.hour();
        due("OVER ahead of the first", x.judge(), 1);
        x.dusk(16);
        due("from how it is now", x.judge(), 0);
        bytes(x, 0, 1);
        x.goAll(0, 0, 1);
        due("from another now", x.judge(), 1);
    }

    // ---- promises 29 to 35

    static void best() {
        of(29, "WORTH of the BEST PLANS of n (0 to 4).");
        int[] want = {0, 8, 13, 13, 13};
        for (int n = 0; n <= 4; n++) {
            due("of " + n, narrow().best(n), want[n]);
            due("till 1, of " + n, narrowTill(1).best(n), Math.min(8, want[n]));
            due("OVER, of " + n, narrowOver().best(n), 0);
            due("nobody, of " + n, new ShadowSchool().best(n), 0);
        }
    }

    static void bestBad() {
        of(29, "BAD.");
        for (int b : outside(0, 4)) {
            refused("n " + b, Sentences::school, x -> x.best(b), BAD);
            refused("n " + b + ", OVER", Sentences::over, x -> x.best(b), BAD);
        }
    }

    static void ith() {
        of(30, "The i-th (0 to 3) ACT of the FIRST of them.");
        int[] want = {0, 0, 1, 0};
        for (int i = 0; i < 4; i++) {
            due("ACT " + i, narrow().ith(4, i), want[i]);
        }
    }

    static void ithBad() {
        of(30, "BAD;");
        for (int b : outside(0, 4)) {
            refused("n " + b, Sentences::school, x -> x.ith(b, 0), BAD);
        }
        for (int b : outside(0, 3)) {
            refused("i " + b, Sentences::school, x -> x.ith(4, b), BAD);
            refused("i " + b + ", OVER", Sentences::over, x -> x.ith(4, b), BAD);
        }
    }

    static void ithNone() {
        of(30, "NONE: it has not so many.");
        for (int n = 0; n <= 4; n++) {
            for (int i = 0; i <= 3; i++) {
                due("ACT " + i + " of " + n, idle(1).ith(n, i), i < n ? 0 : NONE);
                due("ACT " + i + " of " + n + ", OVER", narrowOver().ith(n, i), NONE);
            }
        }
        for (int dusk = 1; dusk <= 4; dusk++) {
            due("the last till " + dusk, narrowTill(dusk).ith(4, dusk - 1), dusk == 1 ? 1 : 0);
            due("behind " + dusk, dusk == 4 ? NONE : narrowTill(dusk).ith(4, dusk), NONE);
        }
        refused("of none", Sentences::school, x -> x.ith(0, 0), NONE);
    }

    static void ways() {
        of(31, "How many of them there are.");
        int[] want = {1, 1, 2};
        for (int n = 0; n <= 2; n++) {
            due("of " + n, narrow().ways(n), want[n]);
        }
        due("OVER: the one without ACTS", narrowOver().ways(4), 1);
        due("nobody", new ShadowSchool().ways(4), 1);
        due("all of six", idle(6).ways(4), 7 * 7 * 7 * 7);
    }

    static void waysBad() {
        of(31, "BAD.");
        for (int b : outside(0, 4)) {
            refused("n " + b, Sentences::school, x -> x.ways(b), BAD);
        }
    }

    static void taught() {
        of(32, "TAUGHT by n (0 to 4), a set of LESSONS (of such as there are).");
        for (int n = 0; n <= 4; n++) {
            due("no LESSONS by " + n, narrow().taught(n, 0), 0);
            due("LESSON 0 by " + n, narrow().taught(n, 1), n == 0 ? NONE : 1);
            due("both by " + n, narrow().taught(n, 3), n < 2 ? NONE : 1);
            due("no LESSONS, OVER", narrowOver().taught(n, 0), 0);
        }
        ShadowSchool x = narrow();
        bytes(x, 0, 1);
        x.goAll(0, 0, 1);
        due("by now", x.taught(0, 1), 0);
        x.dusk(1);
        due("by now, OVER", x.taught(4, 1), 0);
    }

    static void taughtBad() {
        of(32, "BAD;");
        for (int b : outside(0, 4)) {
            refused("n " + b, Sentences::school, x -> x.taught(b, 0), BAD);
        }
        for (int b : new int[] {8, 9, 15, 128, 256, -1, -8, MIN, MAX}) {
            refused("set " + b, Sentences::school, x -> x.taught(4, b), BAD);
        }
        for (int b : new int[] {256, 511, -1, MIN, MAX}) {
            refused("set " + b + " of eight", Sentences::full, x -> x.taught(0, b), BAD);
        }
        due("none there", new ShadowSchool().taught(0, 1), BAD);
        due("all eight", full().taught(0, 255), NONE);
    }

    static void taughtNone() {
        of(32, "NONE.");
        refused("in no HOURS", Sentences::school, x -> x.taught(0, 2), NONE);
        due("OVER", narrowOver().taught(4, 1), NONE);
        due("one of two", narrow().taught(1, 3), NONE);
        // Each of them is LEARNT behind some PLAN, but not both behind one.
        due("together never", either().taught(1, 3), NONE);
        due("one", either().taught(1, 1), 1);
        due("the other", either().taught(1, 2), 0);
    }

    /** In HOUR 0 LESSON 0 is LEARNT, if SHADOW 0 is SENT OUT, or else LESSON 1 by SHADOW 1. */
    private static ShadowSchool either() {
        ShadowSchool x = new ShadowSchool();
        x.shadow(1, 1, 1);
        x.shadow(1, 4, 1);
        x.lesson(4, -1, 0, 0, 1);
        x.lesson(2, -1, 0, 0, 1);
        return x;
    }

    static void bars() {
        of(33, "BAR likewise.");
        int[] want = {0, 1, NONE, NONE, NONE};
        ShadowSchool again = narrow();
        for (int n = 0; n <= 4; n++) {
            due("by " + n, narrow().bars(n, 3), want[n]);
            due("OVER, by " + n, narrowOver().bars(n, 3), 0);
        }
        due("by four", again.bars(4, 3), NONE);
        due("by none, asked then", again.bars(0, 3), 0);
        ShadowSchool x = narrow();
        bytes(x, 0, 1);
        x.goAll(0, 0, 1);
        due("by now", x.bars(0, 3), 1);
    }

    static void barsBad() {
        of(33, "BAD;");
        for (int b : outside(0, 4)) {
            refused("n " + b, Sentences::school, x -> x.bars(b, 0), BAD);
        }
        for (int b : new int[] {8, 9, 15, 128, 256, -1, -8, MIN, MAX}) {
            refused("set " + b, Sentences::school, x -> x.bars(4, b), BAD);
        }
        due("none there", new ShadowSchool().bars(0, 1), BAD);
    }

    static void barsNone() {
        of(33, "NONE: each is LEARNT by some behind some.");
        due("each by another PLAN", either().bars(1, 3), NONE);
        due("none asked", narrow().bars(0, 0), NONE);
        due("none asked, OVER", narrowOver().bars(4, 0), NONE);
        refused("each", Sentences::school, x -> x.bars(4, 1), NONE);
    }

    static void game() {
        of(34, "VALUE of a GAME of n (1 to 4).");
        // SHADOW 0 LEARNS LESSONS of 5 in each HOUR in which it isn't SENT OUT: in the first one's.
        ShadowSchool x = alike(1, 4, 9, 1);
        for (int l = 0; l < 4; l++) {
            x.lesson(5, -1, 0, 15, 1);
        }
        int[] want = {5, 5, 10, 10};
        for (int n = 1; n <= 4; n++) {
            due("of " + n, x.game(n), want[n - 1]);
        }
        x.dusk(3);
        due("of four till 3", x.game(4), 10);
        x.hour();
        due("who begins is the first one, whatever HOUR", x.game(1), 5);
        due("of two from 1", x.game(2), 5);
    }

    static void gameBad() {
        of(34, "BAD.");
        for (int b : outside(1, 4)) {
            refused("n " + b, Sentences::school, x -> x.game(b), BAD);
            refused("n " + b + ", OVER", Sentences::over, x -> x.game(b), BAD);
        }
    }

    static void play() {
        of(35, "The least ACT by which who begins comes to it.");
        due("SHADOW 0 is SENT OUT", narrow().play(1), 1);
        due("of two", narrow().play(2), 1);
        due("all are alike", idle(6).play(4), 0);
        due("nobody there", new ShadowSchool().play(1), 0);
        // Without 0 or 1 there is a place for 2, who alone LEARNS in HOUR 0.
        ShadowSchool x = alike(3, 4, 1, 1);
        x.change(2, 1, 9);
        x.lesson(5, -1, 0, 0, 2);
        due("1 and 2 do as well", x.play(1), 1);
        x.change(0, 1, 9);
        due("but 0 LEARNS, too", x.play(1), 2);
        x.change(1, 1, 9);
        due("or all do", x.play(1), 0);
        // Who LEARNS LESSON 0 plays then: SHADOW 5, the only one that doesn't play, is SENT OUT, for the sake of LESSON 1.
        x = alike(6, 4, 9, 1);
        x.lesson(1, -1, 0, 0, 6);
        x.lesson(5, -1, 2, 2, 6);
        read(x, "shadow if number < 5 play; shadow if learnt > 0 play;");
        due("the greatest ACT", x.play(3), 6);
        due("in two it isn't WORTH that", x.play(2), 0);
    }

    static void playBad() {
        of(35, "BAD;");
        for (int b : outside(1, 4)) {
            refused("n " + b, Sentences::school, x -> x.play(b), BAD);
        }
    }

    static void playNone() {
        of(35, "NONE: it is OVER.");
        for (int n = 1; n <= 4; n++) {
            int some = n;
            refused("of " + n, Sentences::over, x -> x.play(some), NONE);
        }
        due("one HOUR yet", narrowTill(1).play(4), 1);
    }

    // ---- promises 43 to 46

    static void prove() {
        of(43, "ROWS of the FIRST of the BEST PLANS of n (0 to 4): how many.");
        ShadowSchool x = narrow();
        for (int n = 4; n >= 0; n--) {
            due("of " + n, x.prove(n), n);
            due("ROWS", x.many(4), n);
            due("the last", x.row(n - 1, 0), n == 0 ? NO_ROW : n == 1 ? 1 : 0);
            due("behind it", x.row(n, 0), NO_ROW);
        }
        due("till 3", narrowTill(3).prove(4), 3);
        due("OVER", narrowOver().prove(4), 0);
        x = narrow();
        x.prove(4);
        x.dusk(1);
        x.hour();
        due("ROWS stay, till others come", x.many(4), 4);
        due("OVER: none", x.prove(4), 0);
        due("none now", x.many(4), 0);
    }

    static void proveBad() {
        of(43, "BAD.");
        for (int b : outside(0, 4)) {
            refused("n " + b, Sentences::school, x -> x.prove(b), BAD);
        }
    }

    static void row() {
        of(44, "Of ROW k: what = 0 ACT, 1 WORTH, 2 the LESSONS that some have LEARNT.");
        ShadowSchool x = narrow();
        x.prove(2);
        int[][] want = {{1, 8, 1}, {0, 5, 3}};
        for (int k = 0; k < 2; k++) {
            for (int what = 0; what < 3; what++) {
                due("ROW " + k + ", " + what, x.row(k, what), want[k][what]);
            }
        }
    }

    static void rowNone() {
        of(44, "-9: there is none such, another what.");
        for (int b : outside(0, 2)) {
            refused("ROW " + b, Sentences::school, x -> x.row(b, 0), NO_ROW);
            refused("what " + b, Sentences::school, x -> x.row(0, b), NO_ROW);
        }
        due("none yet", narrow().row(0, 0), NO_ROW);
        ShadowSchool x = narrow();
        x.prove(4);
        due("the fourth", x.row(3, 2), 3);
        for (int b : outside(0, 3)) {
            due("of four " + b, x.row(b, 2), NO_ROW);
        }
    }

    static void alterRow() {
        of(45, "It becomes v: what it was.");
        ShadowSchool x = narrow();
        x.prove(2);
        int[][] was = {{1, 8, 1}, {0, 5, 3}};
        for (int k = 0; k < 2; k++) {
            for (int what = 0; what < 3; what++) {
                due("was", x.alterRow(k, what, MIN + k), was[k][what]);
                due("was then", x.alterRow(k, what, MAX - what), MIN + k);
            }
        }
        for (int k = 0; k < 2; k++) {
            for (int what = 0; what < 3; what++) {
                due("is", x.row(k, what), MAX - what);
            }
        }
        x.prove(2);
        due("made anew", x.row(0, 1), 8);
    }

    static void alterRowNone() {
        of(45, "-9 likewise.");
        for (int b : outside(0, 2)) {
            refused("ROW " + b, Sentences::school, x -> x.alterRow(b, 0, 1), NO_ROW);
            refused("what " + b, Sentences::school, x -> x.alterRow(0, b, 1), NO_ROW);
        }
        due("none yet", narrow().alterRow(0, 0, 0), NO_ROW);
    }

    static void judge() {
        of(46, "THE READER takes ROWS as such: 0 all is right; else the first ROW that isn't, and 1 more.");
        ShadowSchool x = narrow();
        due("no ROWS", x.judge(), 0);
        x.prove(4);
        due("all four", x.judge(), 0);
        for (int k = 3; k >= 0; k--) {
            x.alterRow(k, 1, 99);
            due("the first that isn't", x.judge(), k + 1);
        }
    }
}
