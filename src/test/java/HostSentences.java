/** Sentences of sheets, shelves and what is kept: promises 47 to 53 and 56 to 58, and the Terms that they go by. */
final class HostSentences extends Sentences {
    private static final int BYTES = 0, LONGS = 3, BOOLEANS = 4;

    private static ShadowSchool withSheet(int sort, int n) {
        ShadowSchool x = new ShadowSchool();
        x.sheet(0, sort, n);
        return x;
    }

    // ---- Terms

    static void fourSheets() {
        of(47, "SHEETS 0 to 3 are rows of bytes (sort 0), shorts (1), ints (2), longs (3) or booleans (4), 40 at most, "
            + "or missing (at first).");
        ShadowSchool x = new ShadowSchool();
        for (int sheet = 0; sheet <= 3; sheet++) {
            for (int sort = 0; sort <= 4; sort++) {
                due("missing at first", x.item(sheet, sort, 0), NOTHING);
            }
        }
        int[] ofAll = {0x12345678, 0x12345678, 0x12345678, 0x12345678, 0x12345678};
        int[] want = {0x78, 0x5678, 0x12345678, 0x12345678, 1};
        for (int sheet = 0; sheet <= 3; sheet++) {
            for (int sort = 0; sort <= 4; sort++) {
                due("40 of sort " + sort, x.sheet(sheet, sort, 40), 1);
                due("the last", x.write(sheet, 39, ofAll[sort]), 1);
                due("it is of sort " + sort, x.item(sheet, sort, 39), want[sort]);
                due("41 are too many", x.sheet(sheet, sort, 41), BAD);
            }
        }
    }

    static void fourShelves() {
        of(52, "SHELVES 0 to 3 hold a SHADOW (by its number; nothing, if there is no such one at the time), a SHEET's "
            + "row, or nothing (at first).");
        ShadowSchool x = new ShadowSchool();
        for (int shelf = 0; shelf <= 3; shelf++) {
            due("nothing at first", x.taken(shelf, 0), NOTHING);
            due("nothing as a row", x.taken(shelf, 10), NOTHING);
            due("no act", x.act(shelf, 0, 1), 0);
        }
        x.keep();
        for (int p = 0; p < 4; p++) {
            x.shadow(2, 1, 1);
            due("SHADOW " + p, x.shelf(p, 0, p), 1);
        }
        for (int p = 0; p < 4; p++) {
            due("each its own", x.taken(p, 0), p);
        }
        x.again();
        due("no such one at the time", x.taken(0, 0), NOTHING);
        due("no act of it", x.act(0, 0, 1), 0);
        x.shadow(4, 5, 1);
        due("there is one again", x.taken(0, 4), 0);
        due("by its number: the new one's QUICK", x.act(0, 1, 0), -5);
        due("the next is none yet", x.taken(1, 0), NOTHING);
        x.remake(0, 1);
        x.change(0, 1, 7);
        due("its KIND as it is", x.taken(0, 1), 0);
        due("its QUICK as it is", x.act(0, 0, 0), 7);
        x.sheet(2, 1, 7);
        x.shelf(0, 1, 2);
        due("a row", x.taken(0, 11), 7);
        x.sheet(2, 3, 9);
        due("that row, not what the SHEET has become", x.taken(0, 11), 7);
        x.sheet(2, -1, 0);
        due("nor that it is missing", x.taken(0, 11), 7);
    }

    // ---- promises 47 to 53

    static void sheetOfN() {
        of(47, "A SHEET becomes a row of n of a sort, all 0,");
        for (int sort = 0; sort <= 4; sort++) {
            for (int n : new int[] {0, 1, 39, 40}) {
                ShadowSchool x = withSheet(sort, n);
                for (int i = 0; i < n; i++) {
                    due("item " + i + " of " + n, x.item(0, sort, i), 0);
                    x.write(0, i, 1);
                }
                due("behind the last of " + n, x.item(0, sort, n), OUTSIDE);
                due("anew", x.sheet(0, sort, n), 1);
                for (int i = 0; i < n; i++) {
                    due("item " + i + " of " + n + ", anew", x.item(0, sort, i), 0);
                }
            }
        }
        ShadowSchool x = withSheet(BYTES, 3);
        x.sheet(0, LONGS, 2);
        due("of another sort", x.item(0, LONGS, 1), 0);
        due("no more of the first", x.item(0, BYTES, 1), OTHER);
        due("fewer", x.item(0, LONGS, 2), OUTSIDE);
    }

    static void sheetMissing() {
        of(47, "or missing (sort -1; n counts nothing then): 1.");
        for (int n : new int[] {0, 40, 41, -1, MIN, MAX}) {
            ShadowSchool x = withSheet(BYTES, 3);
            due("missing, n " + n, x.sheet(0, -1, n), 1);
            due("it is, n " + n, x.item(0, BYTES, 0), NOTHING);
            due("nothing can be written", x.write(0, 0, 1), NOTHING);
        }
    }

    static void sheetBad() {
        of(47, "BAD: no such SHEET, sort, n above 40;");
        for (int b : outside(0, 3)) {
            refused("SHEET " + b, Sentences::school, x -> x.sheet(b, 0, 1), BAD);
            refused("SHEET " + b + ", missing", Sentences::school, x -> x.sheet(b, -1, 1), BAD);
        }
        for (int b : outside(-1, 4)) {
            refused("sort " + b, Sentences::school, x -> x.sheet(0, b, 1), BAD);
        }
        for (int sort = 0; sort <= 4; sort++) {
            int some = sort;
            refused("41", Sentences::school, x -> x.sheet(0, some, 41), BAD);
            refused("very many", Sentences::school, x -> x.sheet(0, some, MAX), BAD);
        }
    }

    static void sheetBelow0() {
        of(47, "-14.");
        for (int sort = 0; sort <= 4; sort++) {
            int some = sort;
            refused("-1", Sentences::school, x -> x.sheet(0, some, -1), BELOW_0);
            refused("far below", Sentences::school, x -> x.sheet(3, some, MIN), BELOW_0);
            due("0", school().sheet(0, sort, 0), 1);
        }
    }

    static void writeNarrowed() {
        of(48, "Item i becomes v, narrowed to its sort (booleans: whether it is not 0): 1.");
        int[] given = {0, 1, -1, 127, 128, -128, -129, 255, 256, 32767, 32768, -32768, -32769, 65535, 65536, MIN, MAX};
        int[][] want = {
            {0, 1, -1, 127, -128, -128, 127, -1, 0, -1, 0, 0, -1, -1, 0, 0, -1},
            {0, 1, -1, 127, 128, -128, -129, 255, 256, 32767, -32768, -32768, 32767, -1, 0, 0, -1},
            given, given,
            {0, 1, 1, 1, 1, 1, 1, 1, 1, 1, 1, 1, 1, 1, 1, 1, 1}};
        for (int sort = 0; sort <= 4; sort++) {
            ShadowSchool x = withSheet(sort, given.length);
            for (int i = 0; i < given.length; i++) {
                due("written", x.write(0, i, given[i]), 1);
            }
            for (int i = 0; i < given.length; i++) {
                due(given[i] + " as sort " + sort, x.item(0, sort, i), want[sort][i]);
            }
        }
        ShadowSchool x = withSheet(BOOLEANS, 1);
        x.write(0, 0, 256);
        x.write(0, 0, 0);
        due("0 again", x.item(0, BOOLEANS, 0), 0);
    }

    static void writeBad() {
        of(48, "BAD: no such SHEET;");
        for (int b : outside(0, 3)) {
            refused("SHEET " + b, Sentences::school, x -> x.write(b, 0, 1), BAD);
        }
    }

    static void writeToNothing() {
        of(48, "-11;");
        refused("missing", Sentences::school, x -> x.write(3, 0, 1), NOTHING);
        due("each is at first", new ShadowSchool().write(0, 0, 1), NOTHING);
    }

    static void writeOutside() {
        of(48, "-12.");
        for (int b : outside(0, 3)) {
            refused("item " + b, Sentences::school, x -> x.write(0, b, 1), OUTSIDE);
        }
        for (int sort = 0; sort <= 4; sort++) {
            due("the last", withSheet(sort, 40).write(0, 39, 1), 1);
            due("behind the last", withSheet(sort, 40).write(0, 40, 1), OUTSIDE);
            due("of no items", withSheet(sort, 0).write(0, 0, 1), OUTSIDE);
        }
    }

    static void itemOfASort() {
        of(49, "Item i, taken for a sort (0 to 4; of longs the lowest 32 bits; of booleans 1, 0).");
        for (int sort = 0; sort <= 4; sort++) {
            ShadowSchool x = withSheet(sort, 40);
            x.write(0, 0, 1);
            x.write(0, 39, -1);
            due("the first of sort " + sort, x.item(0, sort, 0), 1);
            due("another of sort " + sort, x.item(0, sort, 1), 0);
            due("the last of sort " + sort, x.item(0, sort, 39), sort == BOOLEANS ? 1 : -1);
        }
        ShadowSchool x = withSheet(LONGS, 2);
        x.write(0, 0, MIN);
        x.write(0, 1, MAX);
        due("of a long below 0", x.item(0, LONGS, 0), MIN);
        due("of a long above", x.item(0, LONGS, 1), MAX);
    }

    static void itemBad() {
        of(49, "BAD: no such SHEET, sort;");
        for (int b : outside(0, 3)) {
            refused("SHEET " + b, Sentences::school, x -> x.item(b, 0, 0), BAD);
        }
        for (int b : outside(0, 4)) {
            refused("sort " + b, Sentences::school, x -> x.item(0, b, 0), BAD);
        }
    }

    static void itemOfAnotherSort() {
        of(49, "-13;");
        for (int sort = 0; sort <= 4; sort++) {
            for (int as = 0; as <= 4; as++) {
                due(sort + " as " + as, withSheet(sort, 1).item(0, as, 0), as == sort ? 0 : OTHER);
                due(sort + " as " + as + ", no items", withSheet(sort, 0).item(0, as, 0), as == sort ? OUTSIDE : OTHER);
            }
        }
        refused("shorts as bytes", Sentences::school, x -> x.item(1, 0, 0), OTHER);
    }

    static void itemOfNothing() {
        of(49, "-11;");
        for (int sort = 0; sort <= 4; sort++) {
            int as = sort;
            refused("missing", Sentences::school, x -> x.item(3, as, 0), NOTHING);
        }
    }

    static void itemOutside() {
        of(49, "-12.");
        for (int b : outside(0, 3)) {
            refused("item " + b, Sentences::school, x -> x.item(0, 0, b), OUTSIDE);
        }
        due("of 40 the last", withSheet(LONGS, 40).item(0, LONGS, 39), 0);
        due("of 40 behind it", withSheet(LONGS, 40).item(0, LONGS, 40), OUTSIDE);
    }

    static void itemAsLow() {
        of(49, "(An item may be as low as these, too.)");
        ShadowSchool x = withSheet(BYTES, 40);
        for (int i = 0; i < 40; i++) {
            x.write(0, i, -i);
        }
        for (int i = 0; i < 40; i++) {
            due("item " + i, x.item(0, BYTES, i), -i);
        }
    }

    /** SHADOW 0 (PACE 5) LEARNS a LESSON of 5 in each HOUR in which it isn't SENT OUT, till DUSK; SHEET 0 has items. */
    private static ShadowSchool goer(int dusk, int... items) {
        ShadowSchool x = alike(1, 4, 9, 1);
        for (int l = 0; l < 8; l++) {
            x.lesson(5, -1, 0, 15, 1);
        }
        x.dusk(dusk);
        bytes(x, 0, items);
        return x;
    }

    static void goAllActs() {
        of(50, "n (0 to 20) items of a SHEET taken for bytes, from item i on, are ACTS, each followed by an HOUR");
        ShadowSchool x = goer(16, 1, 0, 1, 0, 0, 1);
        due("none of them", x.goAll(0, 0, 0), 0);
        due("HOUR 0", x.state(0), 0);
        due("the first is SENT OUT", x.goAll(0, 0, 1), 0);
        due("HOUR 1", x.state(0), 1);
        due("from item 1 two", x.goAll(0, 1, 2), 5);
        due("HOUR 3", x.state(0), 3);
        due("to the last", x.goAll(0, 2, 4), 10);
        due("HOUR 7", x.state(0), 7);
        due("SCORE", x.state(2), 15);
        due("LEARNT", x.learnt(0), 7);
        x = goer(16, new int[40]);
        due("20 of 40", x.goAll(0, 20, 20), 40);
        due("till DUSK", x.state(0), 16);
    }

    static void goAllLeftOut() {
        of(50, "(what is none, or when it is OVER, is left out)");
        ShadowSchool x = goer(16, 2, -1, 127, -128, 0, 9, 1);
        due("none of four", x.goAll(0, 0, 4), 0);
        due("no HOUR goes by", x.state(0), 0);
        due("one that isn't, between", x.goAll(0, 3, 4), 5);
        due("two HOURS", x.state(0), 2);
        x = goer(3, 0, 0, 0, 0, 0);
        due("OVER behind three", x.goAll(0, 0, 5), 15);
        due("HOUR is DUSK", x.state(0), 3);
        due("OVER at once", x.goAll(0, 0, 5), 0);
        due("HOUR is DUSK still", x.state(0), 3);
        x = new ShadowSchool();
        bytes(x, 0, 0, 1, 0);
        due("without SHADOWS ACT 0 alone is one", x.goAll(0, 0, 3), 0);
        due("two HOURS", x.state(0), 2);
    }

    static void goAllWorth() {
        of(50, ": what these HOURS were WORTH together.");
        ShadowSchool x = goer(16, 0, 0, 0);
        x.hour();
        due("these alone", x.goAll(0, 0, 3), 15);
        due("SCORE has all", x.state(2), 20);
    }

    static void goAllBad() {
        of(50, "BAD: no such SHEET, n;");
        for (int b : outside(0, 3)) {
            refused("SHEET " + b, Sentences::school, x -> x.goAll(b, 0, 1), BAD);
        }
        for (int b : outside(0, 20)) {
            refused("n " + b, Sentences::school, x -> x.goAll(0, 0, b), BAD);
        }
        due("n 20", goer(16, new int[20]).goAll(0, 0, 20), 40);
    }

    static void goAllOfAnotherSort() {
        of(50, "-13;");
        for (int sort = 1; sort <= 4; sort++) {
            int other = sort;
            refused("sort " + sort, () -> {
                ShadowSchool x = goer(16);
                x.sheet(0, other, 3);
                return x;
            }, x -> x.goAll(0, 0, 3), OTHER);
        }
        refused("n 0 of shorts", Sentences::school, x -> x.goAll(1, 0, 0), OTHER);
    }

    static void goAllOfNothing() {
        of(50, "-11;");
        refused("missing", Sentences::school, x -> x.goAll(3, 0, 1), NOTHING);
        refused("n 0", Sentences::school, x -> x.goAll(3, 0, 0), NOTHING);
    }

    static void goAllOutside() {
        of(50, "-12: what stood ahead was done.");
        ShadowSchool x = goer(16, 0, 1, 0);
        due("one too many", x.goAll(0, 0, 4), OUTSIDE);
        due("three HOURS", x.state(0), 3);
        due("their WORTH", x.state(2), 10);
        due("the last, and one more", x.goAll(0, 2, 2), OUTSIDE);
        due("one HOUR", x.state(0), 4);
        x.dusk(4);
        due("OVER, and one too many", x.goAll(0, 0, 4), OUTSIDE);
        for (int b : new int[] {-1, 4, MIN, MAX, MAX - 19}) {
            refused("from " + b, Sentences::school, y -> y.goAll(0, b, 20), OUTSIDE);
        }
        refused("of no items", Sentences::school, y -> y.goAll(2, 0, 1), OUTSIDE);
    }

    static void wouldBe() {
        of(51, "n (0 to 20) items likewise: what they would be WORTH.");
        ShadowSchool x = goer(16, 1, 0, 1, 0, 0);
        int[] want = {0, 0, 5, 5, 10, 15};
        for (int n = 0; n <= 5; n++) {
            due("n " + n, x.wouldBe(0, 0, n), want[n]);
        }
        due("from item 3", x.wouldBe(0, 3, 2), 10);
        due("HOUR stays", x.state(0), 0);
        x.hour();
        due("SCORE counts nothing", x.wouldBe(0, 1, 1), 5);
        for (int n = 0; n <= 16; n++) {
            due("n " + n + " till 16", goer(16, new int[20]).wouldBe(0, 0, n), 5 * Math.min(n, 8));
        }
    }

    static void wouldBeBad() {
        of(51, "BAD: no such SHEET, n;");
        for (int b : outside(0, 3)) {
            refused("SHEET " + b, Sentences::school, x -> x.wouldBe(b, 0, 1), BAD);
        }
        for (int b : outside(0, 20)) {
            refused("n " + b, Sentences::school, x -> x.wouldBe(0, 0, b), BAD);
        }
        due("n 20 isn't", goer(16, new int[20]).wouldBe(0, 0, 20), STATE);
    }

    static void wouldBeOfAnotherSort() {
        of(51, "-13;");
        for (int sort = 1; sort <= 4; sort++) {
            ShadowSchool x = goer(16);
            x.sheet(0, sort, 3);
            due("sort " + sort, x.wouldBe(0, 0, 3), OTHER);
            due("sort " + sort + ", n 0", x.wouldBe(0, 0, 0), OTHER);
        }
        refused("shorts", Sentences::school, x -> x.wouldBe(1, 0, 1), OTHER);
    }

    static void wouldBeOfNothing() {
        of(51, "-11;");
        refused("missing", Sentences::school, x -> x.wouldBe(3, 0, 1), NOTHING);
        refused("missing, n 0", Sentences::school, x -> x.wouldBe(3, 0, 0), NOTHING);
    }

    static void wouldBeOutside() {
        of(51, "then, by items, -12;");
        for (int b : new int[] {-1, 4, MIN, MAX, MAX - 19}) {
            refused("from " + b, Sentences::school, x -> x.wouldBe(0, b, 20), OUTSIDE);
        }
        due("one too many", goer(16, 0, 0).wouldBe(0, 0, 3), OUTSIDE);
        due("outside behind one that is no ACT", goer(16, 0, 2).wouldBe(0, 0, 3), STATE);
        due("outside ahead of that it is OVER", goer(2, 0, 0).wouldBe(0, 0, 3), OUTSIDE);
        due("OVER ahead of outside", goer(1, 0, 0).wouldBe(0, 0, 3), STATE);
        refused("OVER, and outside at once", Sentences::over, x -> x.wouldBe(0, 4, 1), OUTSIDE);
    }

    static void wouldBeState() {
        of(51, "STATE: one is no ACT, or it would be OVER ahead of it.");
        for (int b : new int[] {-1, 2, 127, -128}) {
            due("no ACT " + b, goer(16, b).wouldBe(0, 0, 1), STATE);
            due("no ACT " + b + " at last", goer(16, 0, 1, b).wouldBe(0, 0, 3), STATE);
            due("ahead of it", goer(16, 0, 1, b).wouldBe(0, 0, 2), 5);
        }
        due("just till DUSK", goer(3, 0, 0, 0, 0).wouldBe(0, 0, 3), 15);
        due("OVER ahead of the fourth", goer(3, 0, 0, 0, 0).wouldBe(0, 0, 4), STATE);
        refused("OVER", Sentences::over, x -> x.wouldBe(0, 0, 1), STATE);
        due("OVER, n 0", over().wouldBe(0, 0, 0), 0);
        refused("no ACT in the school", Sentences::school, x -> x.wouldBe(0, 0, 4), STATE);
    }

    static void shelfHolds() {
        of(52, "A SHELF holds SHADOW n (what 0), the row of SHEET n (1; nothing, if missing), nothing (2): 1.");
        for (int shelf = 0; shelf <= 3; shelf++) {
            ShadowSchool x = school();
            for (int p = 0; p < 3; p++) {
                due("SHADOW " + p, x.shelf(shelf, 0, p), 1);
                due("it is", x.taken(shelf, 0), p);
            }
            int[] sizes = {4, 2, 0};
            int[] sorts = {10, 11, 10};
            for (int sheet = 0; sheet < 3; sheet++) {
                due("SHEET " + sheet, x.shelf(shelf, 1, sheet), 1);
                due("its row", x.taken(shelf, sorts[sheet]), sizes[sheet]);
            }
            due("a missing one", x.shelf(shelf, 1, 3), 1);
            due("is nothing", x.taken(shelf, 10), NOTHING);
            x.sheet(3, 0, 1);
            due("nothing, also if it is there later", x.taken(shelf, 10), NOTHING);
            x.shelf(shelf, 0, 1);
            due("nothing", x.shelf(shelf, 2, 0), 1);
            due("it is nothing", x.taken(shelf, 0), NOTHING);
        }
    }

    static void shelfBad() {
        of(52, "BAD: no such SHELF, what, thing.");
        for (int b : outside(0, 3)) {
            for (int what = 0; what <= 2; what++) {
                int some = what;
                refused("SHELF " + b, Sentences::school, x -> x.shelf(b, some, 0), BAD);
            }
            refused("SHEET " + b, Sentences::school, x -> x.shelf(0, 1, b), BAD);
        }
        for (int b : outside(0, 2)) {
            refused("what " + b, Sentences::school, x -> x.shelf(0, b, 0), BAD);
            refused("SHADOW " + b, Sentences::school, x -> x.shelf(0, 0, b), BAD);
        }
        due("nobody", new ShadowSchool().shelf(0, 0, 0), BAD);
        due("SHEET 3", school().shelf(0, 1, 3), 1);
    }

    static void takenAsAThing() {
        of(53, "What a SHELF holds taken for a thing of KIND as (0 to 5, or one under it): its number;");
        int[][] is = {{1, 1, 0, 0, 0, 0}, {1, 0, 1, 0, 0, 0}, {1, 0, 1, 1, 0, 0}, {1, 0, 0, 0, 1, 0},
            {1, 0, 0, 0, 1, 1}};
        ShadowSchool x = ofEach(1, 1);
        for (int p = 0; p < 5; p++) {
            x.shelf(3, 0, p);
            for (int as = 0; as <= 5; as++) {
                due("KIND " + (p + 1) + " as " + as, x.taken(3, as), is[p][as] == 1 ? p : OTHER);
            }
        }
    }

    static void takenAsARow() {
        of(53, "for a row of sort as - 10 (as 10 to 14): how many items.");
        for (int sort = 0; sort <= 4; sort++) {
            for (int n : new int[] {0, 1, 40}) {
                ShadowSchool x = withSheet(sort, n);
                x.shelf(1, 1, 0);
                for (int as = 10; as <= 14; as++) {
                    due(n + " of sort " + sort + " as " + as, x.taken(1, as), as == sort + 10 ? n : OTHER);
                }
            }
        }
    }

    static void takenBad() {
        of(53, "BAD: no such SHELF, as;");
        for (int b : outside(0, 3)) {
            refused("SHELF " + b, Sentences::school, x -> x.taken(b, 0), BAD);
        }
        for (int b : new int[] {-1, 6, 7, 8, 9, 15, MIN, MAX}) {
            for (int shelf = 0; shelf <= 2; shelf++) {
                int some = shelf;
                refused("as " + b + " of SHELF " + shelf, Sentences::school, x -> x.taken(some, b), BAD);
            }
        }
    }

    static void takenForAnother() {
        of(53, "-13;");
        for (int as = 10; as <= 14; as++) {
            int row = as;
            refused("a SHADOW as a row " + as, Sentences::school, x -> x.taken(0, row), OTHER);
        }
        for (int as = 0; as <= 5; as++) {
            int thing = as;
            refused("a row as a thing " + as, Sentences::school, x -> x.taken(1, thing), OTHER);
        }
        refused("borrowed as joined", Sentences::school, x -> x.taken(0, 1), OTHER);
        refused("gifted as coloured, which is under it", Sentences::school, x -> x.taken(3, 3), OTHER);
        refused("shorts as ints", Sentences::school, x -> x.taken(1, 12), OTHER);
    }

    static void takenOfNothing() {
        of(53, "-11.");
        for (int as = 0; as <= 14; as = as == 5 ? 10 : as + 1) {
            int any = as;
            refused("as " + as, Sentences::school, x -> x.taken(2, any), NOTHING);
        }
    }

    // ---- promises 56 to 58

    static void many() {
        of(56, "How many: what = 0 SHADOWS, 1 RULES, 2 LESSONS, 3 REPORTS, 4 ROWS, 5 bytes of THE TAPE, 6 bodies of "
            + "THE TRACE, 7 pairs that QUARREL.");
        ShadowSchool x = school();
        x.lesson(1, -1, 0, 0, 1);
        x.lesson(1, -1, 0, 0, 1);
        x.act(0, 2, 1);
        int[] want = {3, 1, 5, 2, 3, 14, 4, 1};
        for (int what = 0; what <= 7; what++) {
            due("what " + what, x.many(what), want[what]);
            due("none of " + what, new ShadowSchool().many(what), 0);
        }
        int[] most = {6, 0, 8, 6, 0, 200, 0, 0};
        for (int what = 0; what <= 7; what++) {
            due("as many as there may be, " + what, full().many(what), most[what]);
        }
        x = alike(6, 1, 1, 1);
        for (int p = 0; p < 6; p++) {
            for (int q = 0; q < p; q++) {
                x.quarrel(p, q, 1);
            }
        }
        due("all pairs of six", x.many(7), 15);
        read(x, "slow last;".repeat(8));
        due("eight RULES", x.many(1), 8);
        x.prove(4);
        due("four ROWS", x.many(4), 4);
    }

    static void manyBad() {
        of(56, "BAD: another what.");
        for (int b : outside(0, 7)) {
            refused("what " + b, Sentences::school, x -> x.many(b), BAD);
        }
    }

    static void keep() {
        of(57, "All but THE TAPE, ROWS, SHEETS, SHELVES, THE TRACE is kept: 1.");
        ShadowSchool x = school();
        due("kept", x.keep(), 1);
        makeAllAnother(x);
        due("SHADOWS", x.again(), 3);
        int[] counts = {3, 1, 3, 2};
        for (int what = 0; what <= 3; what++) {
            due("many " + what, x.many(what), counts[what]);
        }
        due("pairs", x.many(7), 1);
        int[][] shadows = {{1, 3, 4, 1}, {2, 2, 5, 0}, {5, 4, 2, 0}};
        int[][] points = {{6, 0, 0}, {0, 0, 8}, {0, 0, 7}};
        int[] quarrels = {4, 0, 1};
        for (int p = 0; p < 3; p++) {
            for (int what = 0; what <= 3; what++) {
                due("SHADOW " + p + ", " + what, x.shadowOf(p, what), shadows[p][what]);
            }
            for (int l = 0; l < 3; l++) {
                due("POINTS of " + p + " in " + l, x.points(p, l), points[p][l]);
            }
            due("QUARRELS of " + p, x.quarrels(p), quarrels[p]);
        }
        int[][] lessons = {{6, -1, 0, 15, 1, 1}, {4, 0, 1, 9, 6, 0}, {9, -1, 0, 5, 2, 0}};
        for (int l = 0; l < 3; l++) {
            for (int what = 0; what <= 5; what++) {
                due("LESSON " + l + ", " + what, x.lessonOf(l, what), lessons[l][what]);
            }
        }
        int[] state = {2, 10, 6, 0};
        for (int what = 0; what <= 3; what++) {
            due("state " + what, x.state(what), state[what]);
        }
        due("the RULE: the greatest from 2 on", x.shadowOf(1, 5), 2);
        due("of the others the least", x.shadowOf(2, 5), 0);
        due("REPORTS", x.span(0), 4);
        due("z", x.seed(0), 77);
        // What isn't kept is as it was made.
        due("THE TAPE", x.many(5), 2);
        due("ROWS", x.many(4), 1);
        due("a ROW", x.row(0, 1), 55);
        due("a SHEET", x.item(0, 2, 0), 66);
        due("a SHEET that is missing", x.item(1, 1, 0), NOTHING);
        due("a SHELF", x.taken(0, 12), 1);
        due("THE TRACE", x.many(6), 1);
        due("its body", x.trace(0), 10);
    }

    /** Nothing of the school is as it was. */
    private static void makeAllAnother(ShadowSchool x) {
        x.shadow(4, 9, 9);
        for (int p = 0; p < 3; p++) {
            x.remake(p, 4);
            x.change(p, 1, 9);
            x.change(p, 2, 9);
        }
        x.lesson(1, -1, 0, 15, 6);
        x.quarrel(0, 2, 0);
        x.quarrel(0, 1, 1);
        x.quarrel(1, 3, 1);
        x.forget();
        x.report(1, 1, 999, 999);
        x.rules();
        read(x, "shadow play; shadow last;");
        x.seed(5);
        pass(x, 1);
        x.rules();
        pass(x, 5);
        x.dusk(16);
        x.prove(1);
        x.alterRow(0, 1, 55);
        x.shelf(0, 0, 3);
        x.act(0, 0, 1);
        x.sheet(0, 2, 1);
        x.write(0, 0, 66);
        x.sheet(1, -1, 0);
        x.shelf(0, 1, 0);
        x.feed(0x2020, 2);
    }

    static void again() {
        of(58, "It becomes what was kept latest (which stays): how many SHADOWS.");
        ShadowSchool x = new ShadowSchool();
        x.keep();
        x.shadow(1, 1, 1);
        due("nobody", x.again(), 0);
        for (int p = 0; p < 6; p++) {
            x.shadow(1, 1 + p, 1);
        }
        x.keep();
        x.change(0, 1, 9);
        due("six: the latest", x.again(), 6);
        due("as it was", x.shadowOf(0, 1), 1);
        x.change(0, 1, 8);
        x.anew();
        x.quarrel(0, 5, 1);
        due("it stays", x.again(), 6);
        due("as it was still", x.shadowOf(0, 1), 1);
        due("no QUARRELS", x.quarrels(0), 0);
        x.change(0, 1, 7);
        x.keep();
        x.change(0, 1, 6);
        x.again();
        due("later ones take its place", x.shadowOf(0, 1), 7);
        // Of all that came behind keep() nothing is left.
        x = alike(1, 4, 9, 1);
        x.lesson(5, -1, 0, 15, 1);
        x.keep();
        due("LEARNT", x.hour(), 5);
        x.again();
        due("HOUR", x.state(0), 0);
        due("SCORE", x.state(2), 0);
        due("not LEARNT", x.learnt(0), 0);
        due("LEARNT once more", x.hour(), 5);
    }

    static void againNone() {
        of(58, "NONE: nothing is kept.");
        refused("nothing", () -> alike(3, 2, 2, 2), ShadowSchool::again, NONE);
    }
}
