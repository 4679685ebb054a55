/** Sentences of quarrels, seats and lengths: promises 23 to 28, and the Terms that they go by. */
final class SeatsSentences extends Sentences {
    private static ShadowSchool six() {
        return alike(6, 1, 1, 1);
    }

    /** Six, of whom all up to one QUARREL with one another. */
    private static ShadowSchool quarrelsTo(int last) {
        ShadowSchool x = six();
        for (int p = 0; p <= last; p++) {
            for (int q = 0; q < p; q++) {
                x.quarrel(p, q, 1);
            }
        }
        return x;
    }

    /** Five, each of whom QUARRELS with the next, the last with the first. */
    private static ShadowSchool ring() {
        ShadowSchool x = alike(5, 1, 1, 1);
        for (int p = 0; p < 5; p++) {
            x.quarrel(p, (p + 1) % 5, 1);
        }
        return x;
    }

    // ---- Terms

    static void quarrelsAtFirst() {
        of(24, "QUARRELS: two SHADOWS do, or don't (at first).");
        ShadowSchool x = six();
        for (int p = 0; p < 6; p++) {
            due("of " + p, x.quarrels(p), 0);
            for (int q = 0; q < p; q++) {
                due(p + " and " + q, x.quarrel(p, q, 0), 0);
            }
        }
        due("pairs", x.many(7), 0);
    }

    static void seatingKeepsQuarrelsApart() {
        of(27, "SEATING in n ROOMS (numbered from 0): each SHADOW in one, no two that QUARREL in the same one.");
        ShadowSchool x = alike(2, 1, 1, 1);
        due("two in two", x.seatings(2), 4);
        x.quarrel(0, 1, 1);
        due("two that QUARREL in one", x.seatings(1), 0);
        due("two that QUARREL in two", x.seatings(2), 2);
        due("ROOM of the first", x.seat(0), 0);
        due("ROOM of the second", x.seat(1), 1);
        x.quarrel(1, 0, 0);
        due("they make it up", x.seatings(1), 1);
        x = six();
        x.quarrel(5, 0, 1);
        due("the first and the last", x.seatings(2), 32);
    }

    static void fewestIsTheLeast() {
        of(25, "FEWEST: the least n with which there is one.");
        due("nobody needs none", new ShadowSchool().rooms(), 0);
        due("one", alike(1, 1, 1, 1).rooms(), 1);
        due("a ring of five", ring().rooms(), 3);
        due("six in peace", six().rooms(), 1);
        due("six that all QUARREL", quarrelsTo(5).rooms(), 6);
        due("none in fewer", quarrelsTo(4).seatings(4), 0);
    }

    static void firstSeating() {
        of(26, "The FIRST of them is that with the lesser ROOM where they are unlike first, by SHADOWS.");
        ShadowSchool x = six();
        x.quarrel(4, 5, 1);
        int[] pair = {0, 0, 0, 0, 0, 1};
        x.quarrel(0, 1, 1);
        int[] pairs = {0, 1, 0, 0, 0, 1};
        for (int p = 0; p < 6; p++) {
            due("two pairs, " + p, x.seat(p), pairs[p]);
        }
        x.quarrel(0, 1, 0);
        for (int p = 0; p < 6; p++) {
            due("one pair, " + p, x.seat(p), pair[p]);
        }
        // 0 and 1 take the same ROOM, if they can; here 1 may not, as 2 and 3 have to be seated in two.
        x = alike(4, 1, 1, 1);
        x.quarrel(0, 2, 1);
        x.quarrel(2, 3, 1);
        x.quarrel(3, 1, 1);
        int[] path = {0, 1, 1, 0};
        for (int p = 0; p < 4; p++) {
            due("a path, " + p, x.seat(p), path[p]);
        }
    }

    // ---- promises 23 to 28

    static void quarrel() {
        of(23, "Two SHADOWS QUARREL (v 1), or don't (0): what it was.");
        ShadowSchool x = six();
        due("was", x.quarrel(0, 5, 1), 0);
        due("is", x.quarrel(0, 5, 1), 1);
        due("also the other way round", x.quarrel(5, 0, 1), 1);
        due("of the first", x.quarrels(0), 32);
        due("of the last", x.quarrels(5), 1);
        due("of others", x.quarrels(1) + x.quarrels(2) + x.quarrels(3) + x.quarrels(4), 0);
        x.quarrel(0, 1, 1);
        due("no more", x.quarrel(5, 0, 0), 1);
        due("it was 0", x.quarrel(0, 5, 0), 0);
        due("another pair stays", x.quarrels(0), 2);
        due("pairs", x.many(7), 1);
    }

    static void quarrelBad() {
        of(23, "BAD: also one and the same.");
        for (int b : outside(0, 2)) {
            refused("SHADOW " + b, Sentences::school, x -> x.quarrel(b, 0, 1), BAD);
            refused("with SHADOW " + b, Sentences::school, x -> x.quarrel(0, b, 1), BAD);
            refused("both " + b, Sentences::school, x -> x.quarrel(b, b, 1), BAD);
        }
        for (int b : outside(0, 1)) {
            refused("v " + b, Sentences::school, x -> x.quarrel(0, 1, b), BAD);
            refused("v " + b + " of a pair", Sentences::school, x -> x.quarrel(0, 2, b), BAD);
        }
        for (int p = 0; p < 3; p++) {
            int same = p;
            refused("one and the same, 1", Sentences::school, x -> x.quarrel(same, same, 1), BAD);
            refused("one and the same, 0", Sentences::school, x -> x.quarrel(same, same, 0), BAD);
        }
    }

    static void quarrelsAsASet() {
        of(24, "With whom a SHADOW QUARRELS, as a set.");
        ShadowSchool x = quarrelsTo(5);
        for (int p = 0; p < 6; p++) {
            due("all but itself, " + p, x.quarrels(p), 63 & ~(1 << p));
        }
        due("of a ring", ring().quarrels(0), 2 | 16);
    }

    static void quarrelsBad() {
        of(24, "BAD.");
        for (int b : outside(0, 2)) {
            refused("SHADOW " + b, Sentences::school, x -> x.quarrels(b), BAD);
        }
    }

    static void rooms() {
        of(25, "FEWEST.");
        for (int last = 0; last < 6; last++) {
            due("all to " + last, quarrelsTo(last).rooms(), last + 1);
        }
        ShadowSchool x = quarrelsTo(5);
        x.quarrel(0, 5, 0);
        due("but the first and the last", x.rooms(), 5);
    }

    static void seat() {
        of(26, "ROOM of a SHADOW by the FIRST SEATING in FEWEST ROOMS.");
        int[] want = {0, 1, 0, 1, 2};
        ShadowSchool x = ring();
        for (int p = 0; p < 5; p++) {
            due("of a ring, " + p, x.seat(p), want[p]);
        }
        x = quarrelsTo(5);
        for (int p = 0; p < 6; p++) {
            due("of six that QUARREL, " + p, x.seat(p), p);
        }
        x = six();
        x.quarrel(0, 1, 1);
        due("of more ROOMS none is taken", x.seat(5), 0);
    }

    static void seatBad() {
        of(26, "BAD.");
        for (int b : outside(0, 2)) {
            refused("SHADOW " + b, Sentences::school, x -> x.seat(b), BAD);
        }
        due("nobody", new ShadowSchool().seat(0), BAD);
    }

    static void seatings() {
        of(27, "How many SEATINGS there are in n (1 to 4) ROOMS.");
        int[] nobody = {1, 1, 1, 1};
        int[] all = {1, 64, 729, 4096};
        int[] ring = {0, 0, 30, 240};
        for (int n = 1; n <= 4; n++) {
            due("nobody in " + n, new ShadowSchool().seatings(n), nobody[n - 1]);
            due("six in " + n, six().seatings(n), all[n - 1]);
            due("a ring in " + n, ring().seatings(n), ring[n - 1]);
        }
        due("four that QUARREL", quarrelsTo(3).seatings(4), 24 * 16);
    }

    static void seatingsBad() {
        of(27, "BAD.");
        for (int b : outside(1, 4)) {
            refused("n " + b, Sentences::school, x -> x.seatings(b), BAD);
        }
    }

    /** LENGTHS in HOUR 0: joined 6 and 12, slow 21; bytes on SHEET 0. */
    private static ShadowSchool three(int... items) {
        ShadowSchool x = new ShadowSchool();
        x.shadow(1, 1, 1);
        x.shadow(1, 1, 2);
        x.shadow(4, 1, 3);
        bytes(x, 0, items);
        return x;
    }

    static void matchWays() {
        of(28, "In how many ways items of a SHEET taken for bytes, from item i on, as many as there are SHADOWS, "
            + "can be given to these, one to each, so that none is more than slack (0 to 99) away from its LENGTH "
            + "in HOUR.");
        due("as they are", three(6, 12, 21).match(0, 0, 0), 1);
        due("in another order", three(21, 6, 12).match(0, 0, 0), 1);
        due("one is 1 off", three(6, 12, 22).match(0, 0, 0), 0);
        due("slack 1 above", three(6, 12, 22).match(0, 0, 1), 1);
        due("slack 1 below", three(5, 12, 21).match(0, 0, 1), 1);
        due("2 above by slack 1", three(6, 14, 21).match(0, 0, 1), 0);
        due("6 for two of them", three(6, 12, 21).match(0, 0, 6), 2);
        due("5 not", three(6, 12, 21).match(0, 0, 5), 1);
        due("9: two pairs", three(6, 12, 21).match(0, 0, 9), 3);
        due("15: all", three(6, 12, 21).match(0, 0, 15), 6);
        due("14: but 6 and 21", three(6, 12, 21).match(0, 0, 14), 3);
        due("alike items are others", three(6, 6, 6).match(0, 0, 15), 6);
        due("99 away", three(105, 111, 120).match(0, 0, 99), 1);
        due("99 away at most", three(106, 111, 120).match(0, 0, 99), 0);
        due("bytes below 0", three(-1, 0, -128).match(0, 0, 99), 0);
        due("-78 is 99 from 21", three(6, 12, -78).match(0, 0, 99), 6);
        due("-79 is 100 from 21", three(6, 12, -79).match(0, 0, 99), 4);
        due("-93 is 99 from 6", three(-93, 12, 21).match(0, 0, 99), 2);
        due("-94 is 100 from 6", three(-94, 12, 21).match(0, 0, 99), 0);
        ShadowSchool x = three(99, 6, 12, 21, 99);
        due("from item 1", x.match(0, 1, 0), 1);
        due("from item 0", x.match(0, 0, 9), 0);
        due("to the last item", x.match(0, 2, 9), 0);
        x.hour();
        bytes(x, 0, 5, 10, 18);
        due("in HOUR 1", x.match(0, 0, 0), 1);
        ShadowSchool y = alike(6, 1, 1, 1);
        bytes(y, 3, 6, 6, 6, 6, 6, 6);
        due("six alike, on SHEET 3", y.match(3, 0, 0), 720);
        due("nobody: one way", nobody().match(0, 0, 0), 1);
    }

    private static ShadowSchool nobody() {
        ShadowSchool x = new ShadowSchool();
        bytes(x, 0, 7);
        x.sheet(1, 1, 1);
        return x;
    }

    static void matchBad() {
        of(28, "BAD: no such SHEET, slack;");
        for (int b : outside(0, 3)) {
            refused("SHEET " + b, Sentences::school, x -> x.match(b, 0, 0), BAD);
        }
        for (int b : outside(0, 99)) {
            refused("slack " + b, Sentences::school, x -> x.match(0, 0, b), BAD);
        }
        due("slack 0", three(6, 12, 21).match(0, 0, 0), 1);
        due("slack 99", three(6, 12, 21).match(0, 0, 99), 6);
    }

    static void matchOfAnotherSort() {
        of(28, "-13;");
        for (int sort = 1; sort <= 4; sort++) {
            int other = sort;
            refused("sort " + sort, () -> {
                ShadowSchool x = three(6, 12, 21);
                x.sheet(0, other, 3);
                return x;
            }, x -> x.match(0, 0, 99), OTHER);
        }
        due("nobody", nobody().match(1, 0, 0), OTHER);
    }

    static void matchOfNothing() {
        of(28, "-11;");
        refused("a missing SHEET", Sentences::school, x -> x.match(3, 0, 0), NOTHING);
        due("nobody", nobody().match(2, 0, 0), NOTHING);
    }

    static void matchOutside() {
        of(28, "-12.");
        for (int b : outside(0, 1)) {
            refused("from " + b, Sentences::school, x -> x.match(0, b, 99), OUTSIDE);
        }
        due("the last place", three(0, 6, 12, 21).match(0, 1, 0), 1);
        due("1 item too few", three(6, 12).match(0, 0, 99), OUTSIDE);
        due("no items", three().match(0, 0, 99), OUTSIDE);
        due("wherever lengths lie", three(99, 99).match(0, 0, 0), OUTSIDE);
        for (int b : outside(0, 1)) {
            refused("nobody, from " + b, SeatsSentences::nobody, x -> x.match(0, b, 0), OUTSIDE);
        }
        ShadowSchool x = new ShadowSchool();
        x.sheet(0, 0, 0);
        due("nobody and no items, from 1", x.match(0, 1, 0), OUTSIDE);
        due("nobody and no items, from -1", x.match(0, -1, 0), OUTSIDE);
    }
}
