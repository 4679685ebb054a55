/** Sentences of reports, moments and lots: promises 36 to 42, and the Terms that they go by. */
final class MomentsSentences extends Sentences {
    private static ShadowSchool reported(int... kindTallLeastMost) {
        ShadowSchool x = new ShadowSchool();
        for (int k = 0; k + 3 < kindTallLeastMost.length; k += 4) {
            x.report(kindTallLeastMost[k], kindTallLeastMost[k + 1], kindTallLeastMost[k + 2],
                kindTallLeastMost[k + 3]);
        }
        return x;
    }

    // ---- Terms

    static void sixReports() {
        of(36, "A REPORT (6 at most):");
        ShadowSchool x = new ShadowSchool();
        for (int r = 0; r < 6; r++) {
            due("number", x.report(1 + r % 5, 1 + r, 0, 999), r);
        }
        refused("a seventh", Sentences::full, y -> y.report(1, 1, 0, 999), FULL);
        due("six", x.many(3), 6);
    }

    static void reportOfAKind() {
        of(36, "a shadow of a KIND (1 to 5), TALL, lay from LEAST to MOST long (0 to 999).");
        for (int b : outside(1, 5)) {
            refused("KIND " + b, Sentences::school, x -> x.report(b, 1, 0, 0), BAD);
        }
        for (int b : outside(0, 999)) {
            refused("LEAST " + b, Sentences::school, x -> x.report(1, 1, b, 999), BAD);
            refused("MOST " + b, Sentences::school, x -> x.report(1, 1, 0, b), BAD);
            refused("both " + b, Sentences::school, x -> x.report(1, 1, b, b), BAD);
        }
        ShadowSchool x = new ShadowSchool();
        due("the least of all", x.report(1, 1, 0, 0), 0);
        due("the greatest of all", x.report(5, 9, 999, 999), 1);
        due("anything", x.report(3, 5, 0, 999), 2);
        // TALL 1 in HOUR 0 with SLANT 1: 6, 6, 4, 7 and 10 long; LEAST and MOST themselves FIT, 1 less and more don't.
        int[] long1 = {6, 6, 4, 7, 10};
        for (int kind = 1; kind <= 5; kind++) {
            int at = long1[kind - 1];
            due("just so long, KIND " + kind, reported(kind, 1, at, at).span(1), 0);
            due("SLANT, KIND " + kind, reported(kind, 1, at, at).span(2), 1);
            due("to it, KIND " + kind, first(kind, at - 1, at), 0);
            due("from it, KIND " + kind, first(kind, at, at + 1), 0);
        }
        due("not 1 more", reported(5, 9, 66, 66).span(1) * 10 + reported(5, 9, 66, 66).span(2), 1);
        due("not 1 less", reported(5, 9, 65, 65).span(0), 0);
        due("not 1 more, either", reported(5, 9, 67, 67).span(0), 0);
    }

    /** Whether HOUR 0 with SLANT 1 FITS a REPORT of TALL 1, as 0. */
    private static int first(int kind, int least, int most) {
        ShadowSchool x = reported(kind, 1, least, most);
        return x.span(1) * 10 + x.span(2) - 1;
    }

    static void moments() {
        of(38, "A MOMENT is an HOUR (0 to 15) and a SLANT (1 to 5): shadows are as long as their LENGTH in it times "
            + "SLANT.");
        due("16 times 5", new ShadowSchool().span(0), 80);
        // joined, TALL 9: 81 in HOUR 15 times 5.
        due("HOUR 15 and SLANT 5", reported(1, 9, 405, 405).span(0), 1);
        due("HOUR 15", reported(1, 9, 405, 405).span(1), 15);
        due("SLANT 5", reported(1, 9, 405, 405).span(2), 5);
        due("nothing is longer", reported(1, 9, 406, 999).span(0), 0);
        due("no HOUR 16", reported(1, 9, 450, 450).span(0), 0);
        due("no SLANT 6", reported(1, 9, 486, 486).span(0), 0);
        // Both would be so in HOUR 16 with SLANT 1 alone.
        due("no HOUR 16, of how many", reported(1, 1, 10, 10, 4, 1, 9, 9).span(0), 0);
        due("no HOUR 16, of which", reported(1, 1, 10, 10, 4, 1, 9, 9).span(1), NONE);
        due("no HOUR 16, of a LIAR", reported(1, 1, 10, 10, 4, 1, 9, 9).liar(), 0);
        due("HOUR 0 and SLANT 5", reported(4, 9, 315, 315).span(1), 0);
        due("no SLANT 0", reported(5, 9, 0, 2).span(0), 0);
        // In HOUR 7, where slow is 0 long, borrowed is 3 long, times 1 to 5.
        for (int slant = 1; slant <= 5; slant++) {
            due("HOUR 7", reported(5, 9, 3 * slant, 3 * slant, 4, 9, 0, 0).span(1), 7);
            due("SLANT " + slant, reported(5, 9, 3 * slant, 3 * slant, 4, 9, 0, 0).span(2), slant);
        }
        // The school's own HOUR counts nothing, nor does DUSK.
        ShadowSchool x = reported(1, 9, 405, 405);
        x.dusk(1);
        x.hour();
        due("whatever HOUR it is", x.span(1), 15);
    }

    static void momentsThatFit() {
        of(38, "MOMENTS that FIT: those by which each REPORT is so.");
        // joined, TALL 1, 10 long: 5 * 2 in 1 and 11, 2 * 5 in 4 and 8.
        due("one REPORT", reported(1, 1, 10, 10).span(0), 4);
        // slow, TALL 1, then: 6 * 2, 4 * 2, 3 * 5 and 1 * 5.
        due("two", reported(1, 1, 10, 10, 4, 1, 6, 15).span(0), 3);
        due("three", reported(1, 1, 10, 10, 4, 1, 6, 15, 4, 1, 9, 15).span(0), 2);
        due("the last counts", reported(1, 1, 0, 999, 1, 1, 0, 999, 1, 1, 0, 999, 1, 1, 0, 999, 1, 1, 0, 999,
            1, 1, 10, 10).span(0), 4);
        due("against one another", reported(1, 1, 0, 0, 4, 1, 0, 0).span(0), 0);
        due("in 6 with any SLANT", reported(1, 1, 0, 0).span(0), 5);
    }

    static void liarIsTheLeast() {
        of(39, "LIAR: if none FITS, the least REPORT but for which some would.");
        due("either of two: the least", reported(1, 1, 0, 0, 4, 1, 0, 0).liar(), 0);
        due("the only one", reported(1, 1, 999, 999).liar(), 0);
        due("the last of three", reported(1, 1, 0, 0, 1, 2, 0, 0, 4, 1, 0, 0).liar(), 2);
        due("the second of three", reported(1, 1, 0, 0, 4, 1, 0, 0, 1, 2, 0, 0).liar(), 1);
        due("the last of six", reported(1, 1, 0, 0, 1, 2, 0, 0, 1, 3, 0, 0, 1, 4, 0, 0, 1, 5, 0, 0, 4, 1, 0, 0).liar(),
            5);
    }

    static void lots() {
        of(41, "LOT: an HOUR by chance: z (an int; 1 at first) becomes z * 1103515245 + 12345;");
        due("1 at first", new ShadowSchool().seed(0), 1);
        int[][] steps = {{1, 1103527590}, {0, 12345}, {-1, -1103502900}};
        for (int[] step : steps) {
            ShadowSchool x = new ShadowSchool();
            x.seed(step[0]);
            x.lot();
            due("from " + step[0], x.seed(0), step[1]);
        }
        ShadowSchool x = new ShadowSchool();
        x.seed(MAX);
        x.lot();
        // (2^31 - 1) * 1103515245 is -1103515245 and, as that is odd, 2^31 more.
        due("it wraps", x.seed(0), MIN - 1103515245 + 12345);
        x.seed(MIN);
        x.lot();
        due("it wraps from the least, too", x.seed(0), MIN + 12345);
    }

    static void actByLot() {
        of(41, "who is SENT OUT in it is the ACT that z >>> 16 leaves by how many SHADOWS there are and 1.");
        // From 1: 1103527590 >>> 16 is 16838, which leaves 0, 2, 2, 3, 2 and 3 by 2 to 7.
        int[] byCount = {0, 2, 2, 3, 2, 3};
        for (int count = 1; count <= 6; count++) {
            ShadowSchool x = alike(count, 4, 1, 1);
            x.lesson(20, -1, 0, 15, 6);
            x.lot();
            for (int p = 0; p < count; p++) {
                due("SHADOW " + p + " of " + count, x.points(p, 0), p + 1 == byCount[count - 1] ? 0 : 1);
            }
        }
        // From 3: -984409216, below 0, >>> 16 is 50515, which leaves 1 by 3.
        ShadowSchool x = alike(2, 4, 1, 1);
        x.lesson(20, -1, 0, 15, 6);
        x.seed(3);
        x.lot();
        due("z became", x.seed(0), -984409216);
        due("SHADOW 0 was out", x.points(0, 0), 0);
        due("SHADOW 1 was in", x.points(1, 0), 1);
        x = new ShadowSchool();
        due("nobody", x.lot(), 0);
        due("the HOUR goes by", x.state(0), 1);
    }

    // ---- promises 36 to 42

    static void report() {
        of(36, "A REPORT: its number.");
        ShadowSchool x = school();
        due("the third", x.report(1, 9, 0, 999), 2);
        due("the fourth", x.report(5, 1, 999, 999), 3);
        due("many", x.many(3), 4);
        x.forget();
        due("from 0 again", x.report(1, 1, 0, 0), 0);
    }

    static void reportBad() {
        of(36, "BAD: also MOST below LEAST;");
        refused("by 1", Sentences::school, x -> x.report(1, 1, 5, 4), BAD);
        refused("by all", Sentences::school, x -> x.report(1, 1, 999, 0), BAD);
        refused("KIND 0", Sentences::school, x -> x.report(0, 1, 0, 0), BAD);
        refused("KIND 6", Sentences::school, x -> x.report(6, 1, 0, 0), BAD);
        refused("TALL 0", Sentences::school, x -> x.report(1, 0, 0, 0), BAD);
        refused("TALL 10", Sentences::school, x -> x.report(1, 10, 0, 0), BAD);
        refused("LEAST -1", Sentences::school, x -> x.report(1, 1, -1, 0), BAD);
        refused("MOST 1000", Sentences::school, x -> x.report(1, 1, 0, 1000), BAD);
        due("MOST is LEAST", school().report(1, 1, 5, 5), 2);
    }

    static void reportFull() {
        of(36, "FULL.");
        refused("a seventh", Sentences::full, x -> x.report(5, 9, 999, 999), FULL);
    }

    static void forget() {
        of(37, "There are no REPORTS: how many there were.");
        due("none", new ShadowSchool().forget(), 0);
        due("six", full().forget(), 6);
        ShadowSchool x = reported(1, 1, 999, 999, 1, 1, 999, 999);
        due("two", x.forget(), 2);
        due("none now", x.many(3), 0);
        due("all MOMENTS FIT", x.span(0), 80);
        due("no LIAR", x.liar(), NONE);
        due("none were", x.forget(), 0);
    }

    static void spanHowMany() {
        of(38, "MOMENTS that FIT: what = 0 how many;");
        due("no REPORTS", new ShadowSchool().span(0), 80);
        due("one", reported(1, 9, 405, 405).span(0), 1);
        due("none", reported(1, 1, 999, 999).span(0), 0);
    }

    static void spanFirst() {
        of(38, "of that with the least HOUR, of these the least SLANT: 1 HOUR, 2 SLANT.");
        due("of all: HOUR", new ShadowSchool().span(1), 0);
        due("of all: SLANT", new ShadowSchool().span(2), 1);
        // 10 long: in 1 with 2, in 4 with 5, 8 with 5, 11 with 2.
        due("the least HOUR", reported(1, 1, 10, 10).span(1), 1);
        due("its SLANT", reported(1, 1, 10, 10).span(2), 2);
        // 18 to 30 long: in 0 with 3, 4 and 5.
        due("HOUR 0", reported(1, 1, 18, 30).span(1), 0);
        due("of 3 to 5 the least", reported(1, 1, 18, 30).span(2), 3);
        // 8 long: in 2 with 2, in 14 with 1.
        due("HOURS come first: 2", reported(1, 1, 8, 8).span(1), 2);
        due("whatever SLANT there is later", reported(1, 1, 8, 8).span(2), 2);
    }

    static void spanBad() {
        of(38, "BAD;");
        for (int b : outside(0, 2)) {
            refused("what " + b, Sentences::school, x -> x.span(b), BAD);
        }
    }

    static void spanNone() {
        of(38, "NONE (of 1, 2): there are none.");
        due("HOUR", reported(1, 1, 999, 999).span(1), NONE);
        due("SLANT", reported(1, 1, 999, 999).span(2), NONE);
        due("how many is 0", reported(1, 1, 999, 999).span(0), 0);
    }

    static void liar() {
        of(39, "LIAR.");
        ShadowSchool x = reported(1, 1, 0, 0, 1, 2, 0, 0, 4, 1, 0, 0);
        due("2", x.liar(), 2);
        x.forget();
        x.report(4, 1, 0, 0);
        x.report(1, 1, 0, 0);
        x.report(1, 2, 0, 0);
        due("0", x.liar(), 0);
    }

    static void liarSomeFit() {
        of(39, "NONE: some FIT;");
        due("no REPORTS", new ShadowSchool().liar(), NONE);
        due("the first MOMENT alone", reported(4, 9, 63, 63, 1, 9, 54, 54).liar(), NONE);
        due("the last MOMENT alone", reported(1, 9, 405, 405).liar(), NONE);
        due("all", reported(1, 9, 0, 999).liar(), NONE);
    }

    static void liarNoSuch() {
        of(39, "or there is no such REPORT.");
        due("two against two", reported(1, 1, 0, 0, 1, 2, 0, 0, 4, 1, 0, 0, 4, 2, 0, 0).liar(), NONE);
        due("two that never are", reported(1, 1, 999, 999, 1, 2, 999, 999).liar(), NONE);
    }

    static void seed() {
        of(40, "z becomes v: what it was.");
        ShadowSchool x = new ShadowSchool();
        int[] all = {1, MIN, MAX, 0, -1, 77};
        for (int k = 1; k < all.length; k++) {
            due("was", x.seed(all[k]), all[k - 1]);
        }
        due("is", x.seed(1), 77);
        x.hour();
        x.on(16);
        due("HOURS leave it", x.seed(1), 1);
    }

    static void lot() {
        of(41, "An HOUR by LOT: what it was WORTH.");
        ShadowSchool x = alike(1, 4, 1, 1);
        x.lesson(1, -1, 0, 15, 1);
        // From 0: 12345 >>> 16 is 0: nobody is SENT OUT.
        x.seed(0);
        due("LEARNT", x.lot(), 1);
        due("HOUR", x.state(0), 1);
        due("SCORE", x.state(2), 1);
        x = alike(2, 4, 1, 1);
        x.lesson(1, -1, 0, 15, 1);
        // From 3 SHADOW 0 is SENT OUT.
        x.seed(3);
        due("the other one LEARNT", x.lot(), 1);
        due("it alone", x.learnt(1) * 10 + x.learnt(0), 10);
    }

    static void lotOver() {
        of(41, "STATE: it is OVER.");
        refused("OVER", Sentences::over, ShadowSchool::lot, STATE);
        ShadowSchool x = over();
        x.lot();
        due("z stays", x.seed(0), 77);
        x = school();
        x.dusk(3);
        due("one HOUR yet", Math.min(0, x.lot()), 0);
        due("OVER then", x.lot(), STATE);
    }

    /** Two HOURS, one SHADOW: with LESSONS of 1 in HOUR 0 and of 2 in HOUR 1. */
    private static ShadowSchool twoHours() {
        ShadowSchool x = alike(1, 4, 9, 1);
        x.dusk(2);
        x.lesson(1, -1, 0, 0, 1);
        x.lesson(2, -1, 1, 1, 1);
        return x;
    }

    static void often() {
        of(42, "How many of n (1 to 40) times all HOURS yet by LOT, each from how it is now (z goes on from one to the "
            + "next), are WORTH v (0 to 999) or more");
        // Who is SENT OUT is told by bit 16 of z, from which WORTH 0 to 3 comes, time by time.
        int z = 1;
        int[] worths = new int[40];
        for (int k = 0; k < 40; k++) {
            for (int h = 0; h < 2; h++) {
                z = z * 1103515245 + 12345;
                worths[k] += (z >> 16 & 1) == 1 ? 0 : h + 1;
            }
        }
        for (int n = 1; n <= 40; n++) {
            for (int v = 0; v <= 4; v++) {
                int want = 0;
                for (int k = 0; k < n; k++) {
                    want += worths[k] >= v ? 1 : 0;
                }
                due(n + " times, " + v, twoHours().often(n, v), want);
            }
        }
        due("just v", twoHours().often(1, worths[0]), 1);
        due("1 more", twoHours().often(1, worths[0] + 1), 0);
        due("all are WORTH 0", twoHours().often(40, 0), 40);
        due("none 999", twoHours().often(40, 999), 0);
        ShadowSchool x = twoHours();
        x.seed(0);
        due("HOUR 0 of the first from 0: nobody is SENT OUT", x.often(1, 1), 1);
        pass(x, 1);
        due("SCORE counts nothing", x.often(40, 3), 0);
        pass(x, 1);
        due("OVER, 0", x.often(40, 0), 40);
        due("OVER, 1", x.often(40, 1), 0);
    }

    static void oftenLeavesAll() {
        of(42, "(all is as it was in the end, z, too).");
        changesNothing("1 time", Sentences::school, x -> x.often(1, 0));
        changesNothing("40 times", Sentences::school, x -> x.often(40, 999));
        changesNothing("OVER", Sentences::over, x -> x.often(40, 0));
        ShadowSchool x = twoHours();
        x.seed(-5);
        x.often(40, 2);
        due("z", x.seed(0), -5);
    }

    static void oftenBad() {
        of(42, "BAD.");
        for (int b : outside(1, 40)) {
            refused("n " + b, Sentences::school, x -> x.often(b, 0), BAD);
        }
        for (int b : outside(0, 999)) {
            refused("v " + b, Sentences::school, x -> x.often(1, b), BAD);
        }
    }
}
