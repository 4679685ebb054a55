/** Sentences of things with acts: promises 54 and 55, and the Terms that they go by. */
final class ActsSentences extends Sentences {
    private static final int LIES = 0, TURNS = 1, FOLDS = 2, ASKS = 3;

    /** SHADOWS 0 to 5 of a KIND, all of a QUICK; the one of a number is on SHELF 0. */
    private static ShadowSchool thing(int kind, int number, int quick) {
        ShadowSchool x = alike(6, kind, quick, 1);
        x.shelf(0, 0, number);
        return x;
    }

    /** What an act answers, and the bodies that ran. */
    private static void does(ShadowSchool x, int act, int with, int want, int... bodies) {
        due("act " + act + " with " + with, x.act(0, act, with), want);
        due("bodies of act " + act, x.many(6), bodies.length);
        for (int i = 0; i < bodies.length; i++) {
            due("body " + i + " of act " + act, x.trace(i), bodies[i]);
        }
        due("behind the last body", x.trace(bodies.length), NONE);
    }

    // ---- Terms

    static void actsWrap() {
        of(54, "ACTS of a thing by its KIND, with a number x (ints that wrap): 0 lies, 1 turns, 2 folds, 3 asks.");
        ShadowSchool x = thing(2, 3, 1);
        does(x, LIES, 10, 23, 10);
        does(x, TURNS, 10, 31, 30, 11, 10);
        does(x, FOLDS, 10, 5, 12);
        does(x, ASKS, 10, 93, 13, 30, 11, 10);
        does(x, LIES, MAX, 1, 10);
        does(x, LIES, MIN, 3, 10);
        does(x, LIES, 1 << 30, MIN + 3, 10);
        does(x, TURNS, (1 << 30) - 2, MIN + 7, 30, 11, 10);
        does(x, ASKS, 1 << 29, 3 * ((1 << 30) + 11), 13, 30, 11, 10);
        ShadowSchool y = thing(4, 0, 1);
        due("the least by -1 wraps, and 1 less", y.act(0, FOLDS, MIN), MAX);
        ShadowSchool z = thing(3, 0, 9);
        due("0 less the least wraps", z.act(0, LIES, 1 << 30), MIN);
    }

    static void heldAsItsKind() {
        of(54, "A SHADOW is held as a thing of its KIND; n: its number, a: its QUICK.");
        for (int n = 0; n < 6; n++) {
            for (int a = 1; a <= 9; a++) {
                ShadowSchool x = thing(2, n, a);
                due("n " + n, x.act(0, LIES, 0), n);
                due("n " + n + " less a " + a, x.act(0, TURNS, 0), n - a + 9);
            }
        }
        ShadowSchool x = thing(2, 5, 3);
        x.remake(5, 1);
        x.change(5, 1, 8);
        does(x, LIES, 0, 5 ^ 8, 20, 10);
        x.remake(5, 5);
        does(x, TURNS, 0, (5 - 8) * 2, 60, 11, 10);
    }

    static void bodiesOfShadow() {
        of(54, "BODIES, each with its number: shadow: 10 lies: x * 2 + n. 11 turns: lies(x) - a.");
        ShadowSchool x = thing(4, 2, 7);
        does(x, LIES, 5, 12, 10);
        does(x, LIES, -5, -8, 10);
        does(x, TURNS, 5, 5, 11, 10);
        does(x, TURNS, 0, -5, 11, 10);
        // It turns by its own lies.
        does(thing(1, 2, 7), TURNS, 5, (12 ^ 7) - 7, 11, 20, 10);
    }

    static void bodyOfFolds() {
        of(54, "12 folds: x by (n - a), the rest away");
        does(thing(1, 0, 7), FOLDS, 50, -7, 12);
        does(thing(1, 0, 7), FOLDS, -50, 7, 12);
        does(thing(1, 0, 7), FOLDS, 6, 0, 12);
        does(thing(1, 0, 7), FOLDS, 7, -1, 12);
        does(thing(2, 5, 3), FOLDS, -7, -3, 12);
        does(thing(3, 5, 4), FOLDS, -7, -7, 12);
        does(thing(2, 5, 6), FOLDS, MIN, MIN, 12);
        does(thing(2, 5, 6), FOLDS, MAX, -MAX, 12);
    }

    static void partedBy0() {
        of(54, "(-15 if these are the same; that is all that act() answers then).");
        for (int n = 1; n < 6; n++) {
            for (int kind = 1; kind <= 3; kind++) {
                does(thing(kind, n, n), FOLDS, 7, BY_0, 12);
                does(thing(kind, n, n), FOLDS, 0, BY_0, 12);
            }
            does(thing(4, n, n), FOLDS, 7, BY_0, 40, 12);
            does(thing(5, n, n), FOLDS, 7, BY_0, 61, 40, 12);
            does(thing(3, n, n), ASKS, 7, BY_0, 51, 13, 30, 11, 50, 10, 12);
            // Others of its acts don't part.
            does(thing(5, n, n), LIES, 7, 14 + n, 10);
            does(thing(5, n, n), TURNS, 7, 28, 60, 11, 10);
            does(thing(5, n, n), ASKS, 7, 84, 13, 60, 11, 10);
            does(thing(4, n, n + 1), FOLDS, 7, -8, 40, 12);
        }
        ShadowSchool x = thing(5, 3, 3);
        x.act(0, FOLDS, 7);
        does(x, LIES, 7, 17, 10);
        // An answer may be just that, too.
        does(thing(2, 1, 1), LIES, -8, BY_0, 10);
    }

    static void bodyOfAsks() {
        of(54, "13 asks: turns(x) * 3.");
        does(thing(4, 2, 7), ASKS, 5, 15, 13, 11, 10);
        does(thing(1, 2, 7), ASKS, 5, ((12 ^ 7) - 7) * 3, 13, 11, 20, 10);
        // By its own turns.
        does(thing(2, 2, 7), ASKS, 5, 42, 13, 30, 11, 10);
        does(thing(5, 2, 7), ASKS, 5, 30, 13, 60, 11, 10);
    }

    static void bodyOfJoined() {
        of(54, "joined: 20 lies: super.lies(x) ^ a.");
        does(thing(1, 5, 9), LIES, 3, 11 ^ 9, 20, 10);
        does(thing(1, 5, 9), LIES, -3, -1 ^ 9, 20, 10);
    }

    static void bodyOfGifted() {
        of(54, "gifted: 30 turns: super.turns(x) + 9.");
        does(thing(2, 5, 4), TURNS, 3, 16, 30, 11, 10);
        does(thing(2, 5, 4), LIES, 3, 11, 10);
        does(thing(3, 5, 4), TURNS, 3, -11 - 4 + 9, 30, 11, 50, 10);
    }

    static void bodyOfSlow() {
        of(54, "slow: 40 folds: super.folds(x) - 1.");
        does(thing(4, 5, 3), FOLDS, 9, 3, 40, 12);
        does(thing(4, 5, 3), FOLDS, -1, -1, 40, 12);
        does(thing(4, 5, 3), TURNS, 3, 8, 11, 10);
    }

    static void bodiesOfColoured() {
        of(54, "coloured: 50 lies: 0 - super.lies(x). 51 asks: super.asks(x) + folds(n).");
        does(thing(3, 5, 4), LIES, 3, -11, 50, 10);
        does(thing(3, 5, 4), LIES, -3, 1, 50, 10);
        does(thing(3, 5, 4), FOLDS, 9, 9, 12);
        // asks: (-11 - 4 + 9) * 3, and 5 by 1.
        does(thing(3, 5, 4), ASKS, 3, -18 + 5, 51, 13, 30, 11, 50, 10, 12);
        // asks: (-11 - 7 + 9) * 3, and 5 by -2.
        does(thing(3, 5, 7), ASKS, 3, -27 - 2, 51, 13, 30, 11, 50, 10, 12);
    }

    static void bodiesOfBorrowed() {
        of(54, "borrowed: 60 turns: super.turns(x) * 2. 61 folds: super.folds(x) ^ lies(a).");
        does(thing(5, 5, 4), TURNS, 3, 14, 60, 11, 10);
        does(thing(5, 5, 4), LIES, 3, 11, 10);
        // folds: 9 by 1, less 1; lies(4) is 13.
        does(thing(5, 5, 4), FOLDS, 9, 8 ^ 13, 61, 40, 12, 10);
        // folds: 9 by -2, less 1; lies(7) is 19.
        does(thing(5, 5, 7), FOLDS, 9, -5 ^ 19, 61, 40, 12, 10);
    }

    static void traceOfBodies() {
        of(55, "THE TRACE: numbers of the bodies that ran in the latest act(), as they began (left first);");
        ShadowSchool x = thing(3, 5, 4);
        due("none yet", x.many(6), 0);
        x.act(0, LIES, 1);
        due("two", x.many(6), 2);
        x.act(0, ASKS, 1);
        int[] asks = {51, 13, 30, 11, 50, 10, 12};
        due("the latest alone", x.many(6), 7);
        for (int i = 0; i < 7; i++) {
            due("as they began, " + i, x.trace(i), asks[i]);
        }
        x.act(0, FOLDS, 1);
        due("fewer again", x.many(6), 1);
        due("of the latest", x.trace(0), 12);
        x.shelf(0, 2, 0);
        x.hour();
        x.keep();
        x.again();
        due("other calls leave it", x.trace(0), 12);
    }

    static void firstThirty() {
        of(55, "the first 30 are kept.");
        // No act has more than 7 bodies, so all of each act are kept.
        int[][] counts = {{2, 3, 1, 4}, {1, 3, 1, 4}, {2, 4, 1, 7}, {1, 2, 2, 3}, {1, 3, 4, 4}};
        for (int kind = 1; kind <= 5; kind++) {
            ShadowSchool x = thing(kind, 5, 3);
            for (int act = 0; act <= 3; act++) {
                x.act(0, act, 4);
                due("bodies of act " + act + " of KIND " + kind, x.many(6), counts[kind - 1][act]);
                due("the last is kept", x.trace(counts[kind - 1][act] - 1) > 0 ? 1 : 0, 1);
                due("none at 29", x.trace(29), NONE);
                due("none at 30", x.trace(30), NONE);
            }
        }
    }

    // ---- promises 54 and 55

    static void act() {
        of(54, "An ACT (0 to 3) of the thing on a SHELF, with x.");
        for (int shelf = 0; shelf <= 3; shelf++) {
            ShadowSchool x = alike(6, 4, 2, 1);
            x.shelf(shelf, 0, 1 + shelf);
            due("lies", x.act(shelf, LIES, 100), 201 + shelf);
            due("turns", x.act(shelf, TURNS, 100), 199 + shelf);
            due("folds", x.act(shelf, FOLDS, 100), shelf == 1 ? BY_0 : 100 / (shelf - 1) - 1);
            due("asks", x.act(shelf, ASKS, 100), (199 + shelf) * 3);
        }
    }

    static void actOfNone() {
        of(54, "0, and no TRACE then: no such SHELF, act, nothing, a row.");
        for (int b : outside(0, 3)) {
            ShadowSchool x = school();
            due("THE TRACE was", x.many(6), 4);
            due("SHELF " + b, x.act(b, LIES, 5), 0);
            due("no TRACE", x.many(6), 0);
            due("no body", x.trace(0), NONE);
            x = school();
            due("act " + b, x.act(0, b, 5), 0);
            due("no TRACE", x.many(6), 0);
            due("no body", x.trace(0), NONE);
        }
        for (int act = 0; act <= 3; act++) {
            ShadowSchool x = school();
            due("a row", x.act(1, act, 5), 0);
            due("no TRACE of a row", x.many(6), 0);
            x = school();
            due("nothing", x.act(2, act, 5), 0);
            due("no TRACE of nothing", x.many(6), 0);
            x = new ShadowSchool();
            x.keep();
            x.shadow(1, 1, 1);
            x.shelf(0, 0, 0);
            x.act(0, LIES, 5);
            x.again();
            due("no such SHADOW any more", x.act(0, act, 5), 0);
            due("no TRACE of it", x.many(6), 0);
        }
        ShadowSchool x = school();
        x.act(2, LIES, 5);
        does(x, TURNS, 5, (10 + 2 - 4) * 2, 60, 11, 10);
    }

    static void trace() {
        of(55, "THE TRACE's i-th body.");
        ShadowSchool x = school();
        int[] want = {61, 40, 12, 10};
        for (int i = 0; i < 4; i++) {
            due("body " + i, x.trace(i), want[i]);
        }
    }

    static void traceNone() {
        of(55, "NONE.");
        for (int b : outside(0, 3)) {
            refused("body " + b, Sentences::school, x -> x.trace(b), NONE);
        }
        due("no act yet", new ShadowSchool().trace(0), NONE);
    }
}
