/** Sentences at the head of the Terms, which all promises go by: refusals, sets, quotients, what is asked. */
final class TermsSentences extends Sentences {
    static void fiveHundredAndTwelveCalls() {
        of(56, "An object is used for at most 512 calls after it has been made; what later calls answer is free.");
        ShadowSchool x = new ShadowSchool();
        for (int call = 1; call <= 512; call++) {
            int k = call - 1;
            due("call " + call, k % 2 == 0 ? x.seed(call) : x.many(8), k % 2 == 0 ? Math.max(1, call - 2) : BAD);
        }
        ShadowSchool y = alike(6, 1, 1, 1);
        y.lesson(1, -1, 0, 15, 6);
        y.dusk(16);
        for (int call = 9; call <= 510; call++) {
            due("call " + call, call % 17 == 0 ? y.anew() : y.hour(), worthOfCall(call));
        }
        due("call 511", y.anew(), 0);
        due("call 512", y.hour(), 6);
    }

    /** Of hours from call 9 on, with an anew() at each call that 17 parts: the first hour of a day is worth 6. */
    private static int worthOfCall(int call) {
        if (call % 17 == 0) {
            return call == 17 ? 8 : 16;
        }
        return call == 9 || call % 17 == 1 ? 6 : 0;
    }

    static void refusalsChangeNothing() {
        of(2, "Answers below 0, where not told otherwise, are refusals; such a call changes nothing");
        refused("shadow", Sentences::school, x -> x.shadow(0, 1, 1), BAD);
        refused("shadow", Sentences::full, x -> x.shadow(1, 1, 1), FULL);
        refused("shadowOf", Sentences::school, x -> x.shadowOf(3, 0), BAD);
        refused("change", Sentences::school, x -> x.change(0, 1, 10), BAD);
        refused("remake", Sentences::school, x -> x.remake(0, 6), BAD);
        refused("lesson", Sentences::school, x -> x.lesson(21, -1, 0, 0, 1), BAD);
        refused("lesson", Sentences::full, x -> x.lesson(1, -1, 0, 0, 1), FULL);
        refused("dusk", Sentences::school, x -> x.dusk(1), STATE);
        refused("feed", Sentences::school, x -> x.feed(0x20, 0), BAD);
        refused("feed", Sentences::full, x -> x.feed(0x20, 1), FULL);
        refused("hour", Sentences::over, ShadowSchool::hour, STATE);
        refused("quarrel", Sentences::school, x -> x.quarrel(0, 1, 2), BAD);
        refused("report", Sentences::school, x -> x.report(1, 1, 5, 4), BAD);
        refused("report", Sentences::full, x -> x.report(1, 1, 0, 0), FULL);
        refused("lot", Sentences::over, ShadowSchool::lot, STATE);
        refused("prove", Sentences::school, x -> x.prove(5), BAD);
        refused("alterRow", Sentences::school, x -> x.alterRow(3, 0, 1), NO_ROW);
        refused("sheet", Sentences::school, x -> x.sheet(0, 0, 41), BAD);
        refused("sheet", Sentences::school, x -> x.sheet(0, 0, -1), BELOW_0);
        refused("write", Sentences::school, x -> x.write(0, 4, 1), OUTSIDE);
        refused("goAll", Sentences::school, x -> x.goAll(0, 0, 21), BAD);
        refused("shelf", Sentences::school, x -> x.shelf(0, 0, 3), BAD);
        refused("again", () -> alike(3, 1, 2, 3), ShadowSchool::again, NONE);
    }

    static void theTapeIsUsedUp() {
        of(13, "(but that THE TAPE is used up by rules())");
        ShadowSchool x = school();
        due("bytes", x.many(5), 14);
        due("a FAULT", x.rules(), -111);
        due("no bytes", x.many(5), 0);
        due("the RULE stays", x.many(1), 1);
        due("nothing is left of them", x.rules(), 0);
    }

    static void theFirstNamedOfShadowsAndHours() {
        of(2, "of several the first named");
        refused("bad and full", Sentences::full, x -> x.shadow(6, 1, 1), BAD);
        refused("a bad LESSON and full", Sentences::full, x -> x.lesson(0, -1, 0, 0, 1), BAD);
        refused("bad and below HOUR", Sentences::school, x -> x.dusk(0), BAD);
        refused("bad and THE TAPE is full", Sentences::full, x -> x.feed(0, 9), BAD);
        refused("no such LESSON, never LEARNT", Sentences::over, x -> x.when(0, 3), BAD);
        refused("no such LESSON, and OVER", Sentences::over, x -> x.crowd(3), BAD);
        refused("no such SHADOW, and never let go", Sentences::over, x -> x.letGoBy(3), BAD);
        refused("a bad REPORT and full", Sentences::full, x -> x.report(0, 1, 0, 0), BAD);
    }

    static void theFirstNamedOfPlans() {
        of(30, "of several the first named");
        refused("bad n, not so many", Sentences::school, x -> x.ith(-1, 0), BAD);
        refused("bad i, not so many", Sentences::school, x -> x.ith(0, 4), BAD);
        refused("bad set, never", Sentences::over, x -> x.taught(0, 8 | 1), BAD);
        refused("bad n, never", Sentences::over, x -> x.taught(5, 7), BAD);
        refused("bad set, no BAR of it", Sentences::school, x -> x.bars(0, 8), BAD);
        refused("bad n, OVER", Sentences::over, x -> x.play(0), BAD);
        refused("bad what, none FIT", TermsSentences::noneFit, x -> x.span(3), BAD);
    }

    private static ShadowSchool noneFit() {
        ShadowSchool x = new ShadowSchool();
        x.report(1, 1, 999, 999);
        return x;
    }

    static void theFirstNamedOfTheHost() {
        of(28, "of several the first named");
        refused("slack, another sort", Sentences::school, x -> x.match(1, 0, 100), BAD);
        refused("slack, missing", Sentences::school, x -> x.match(3, 0, -1), BAD);
        refused("another sort, outside", Sentences::school, x -> x.match(1, 9, 0), OTHER);
        refused("missing, outside", Sentences::school, x -> x.match(3, 9, 0), NOTHING);
        refused("a sort, n below 0", Sentences::school, x -> x.sheet(0, 5, -1), BAD);
        refused("no SHEET, n below 0", Sentences::school, x -> x.sheet(4, 0, -1), BAD);
        refused("missing, outside, of write", Sentences::school, x -> x.write(3, -1, 0), NOTHING);
        refused("no sort, missing", Sentences::school, x -> x.item(3, 5, 0), BAD);
        refused("another sort, outside, of item", Sentences::school, x -> x.item(1, 0, 9), OTHER);
        refused("missing, outside, of item", Sentences::school, x -> x.item(3, 0, 9), NOTHING);
        refused("n, missing, of goAll", Sentences::school, x -> x.goAll(3, 0, 21), BAD);
        refused("another sort, outside, of goAll", Sentences::school, x -> x.goAll(1, 9, 1), OTHER);
        refused("missing, outside, of goAll", Sentences::school, x -> x.goAll(3, 9, 1), NOTHING);
        refused("n, another sort, of wouldBe", Sentences::school, x -> x.wouldBe(1, 0, -1), BAD);
        refused("another sort, outside, of wouldBe", Sentences::over, x -> x.wouldBe(1, 9, 1), OTHER);
        refused("missing, outside, of wouldBe", Sentences::over, x -> x.wouldBe(3, 9, 1), NOTHING);
        refused("as, nothing", Sentences::school, x -> x.taken(2, 6), BAD);
        refused("as, a row", Sentences::school, x -> x.taken(1, 15), BAD);
    }

    static void numbersOfRefusals() {
        of(2, "BAD (-1) there is no such thing, or a number is not as told; FULL (-2); NONE (-3); STATE (-4);");
        due("BAD", ShadowSchool.BAD, -1);
        due("FULL", ShadowSchool.FULL, -2);
        due("NONE", ShadowSchool.NONE, -3);
        due("STATE", ShadowSchool.STATE, -4);
        due("no such thing", school().learnt(3), -1);
        due("a number not as told", school().shadow(1, 10, 1), -1);
        due("full", full().shadow(1, 1, 1), -2);
        due("none", new ShadowSchool().again(), -3);
        due("state", over().hour(), -4);
    }

    static void whatTheHostRefuses() {
        of(49, "and what the host refuses: -11 nothing where something is asked, -12 a place outside, "
            + "-13 a thing of another sort or kind, -14 a size below 0, -15 parted by 0.");
        due("nothing in a SHEET", school().item(3, 0, 0), -11);
        due("nothing on a SHELF", school().taken(2, 0), -11);
        due("outside", school().item(0, 0, 4), -12);
        due("another sort", school().item(0, 1, 0), -13);
        due("another kind", school().taken(0, 1), -13);
        due("a size below 0", school().sheet(3, 2, -1), -14);
        ShadowSchool x = school();
        x.change(2, 1, 2);
        due("parted by 0", x.act(0, 2, 5), -15);
    }

    static void setsAreBits() {
        of(15, "Sets are told by bits.");
        ShadowSchool x = alike(6, 2, 1, 1);
        for (int l = 0; l < 8; l++) {
            x.lesson(2, -1, l == 1 || l == 6 ? 15 : 0, 15, 6);
        }
        x.dusk(6);
        pass(x, 6);
        due("LESSONS 0, 2 to 5 and 7", x.learnt(5), 1 | 4 | 8 | 16 | 32 | 128);
        x.quarrel(0, 5, 1);
        x.quarrel(0, 2, 1);
        due("SHADOWS 2 and 5", x.quarrels(0), 4 | 32);
        due("a set that is LEARNT", x.taught(0, 128 | 1), 0);
        due("a set with one that isn't", x.taught(0, 128 | 64 | 1), NONE);
    }

    static void quotients() {
        of(54, "Quotients are cut towards 0.");
        ShadowSchool x = ofEach(5, 1);
        x.shelf(0, 0, 1);
        x.change(1, 1, 3);
        due("7 by -2", x.act(0, 2, 7), -3);
        due("-7 by -2", x.act(0, 2, -7), 3);
        due("1 by -2", x.act(0, 2, 1), 0);
        x.shadow(2, 3, 1);
        x.shelf(0, 0, 5);
        due("-7 by 2", x.act(0, 2, -7), -3);
        due("-1 by 2", x.act(0, 2, -1), 0);
        due("half of 5", x.shadowOf(3, 4), 2 + 1);
    }

    static void whatIsAskedChangesNothing() {
        of(16, "What is asked changes nothing, if not told.");
        changesNothing("shadowOf", Sentences::school, x -> x.shadowOf(0, 5));
        changesNothing("lessonOf", Sentences::school, x -> x.lessonOf(0, 5));
        changesNothing("points", Sentences::school, x -> x.points(0, 0));
        changesNothing("state", Sentences::school, x -> x.state(2));
        changesNothing("learnt", Sentences::school, x -> x.learnt(0));
        changesNothing("on", Sentences::school, x -> x.on(16));
        changesNothing("when", Sentences::school, x -> x.when(2, 2));
        changesNothing("letGo", Sentences::school, ShadowSchool::letGo);
        changesNothing("crowd", Sentences::school, x -> x.crowd(2));
        for (int k = 0; k < 3; k++) {
            int which = k;
            changesNothing("quickFor", Sentences::school, x -> x.quickFor(which));
            changesNothing("letGoBy", Sentences::school, x -> x.letGoBy(which));
            changesNothing("roomFor", Sentences::school, x -> x.roomFor(which));
        }
    }

    static void whatElseIsAskedChangesNothing() {
        of(29, "What is asked changes nothing, if not told.");
        changesNothing("quarrels", Sentences::school, x -> x.quarrels(0));
        changesNothing("rooms", Sentences::school, ShadowSchool::rooms);
        changesNothing("seat", Sentences::school, x -> x.seat(2));
        changesNothing("seatings", Sentences::school, x -> x.seatings(4));
        changesNothing("match", Sentences::school, x -> x.match(0, 0, 99));
        changesNothing("best", Sentences::school, x -> x.best(4));
        changesNothing("ith", Sentences::school, x -> x.ith(4, 3));
        changesNothing("ways", Sentences::school, x -> x.ways(4));
        changesNothing("taught", Sentences::school, x -> x.taught(4, 7));
        changesNothing("bars", Sentences::school, x -> x.bars(4, 7));
        changesNothing("game", Sentences::school, x -> x.game(4));
        changesNothing("play", Sentences::school, x -> x.play(4));
        changesNothing("span", Sentences::school, x -> x.span(1));
        changesNothing("liar", TermsSentences::noneFit, ShadowSchool::liar);
        changesNothing("often", Sentences::school, x -> x.often(40, 5));
        changesNothing("row", Sentences::school, x -> x.row(1, 1));
        changesNothing("judge", Sentences::school, ShadowSchool::judge);
        changesNothing("item", Sentences::school, x -> x.item(0, 0, 1));
        changesNothing("wouldBe", Sentences::school, x -> x.wouldBe(0, 0, 3));
        changesNothing("taken", Sentences::school, x -> x.taken(1, 11));
        changesNothing("trace", Sentences::school, x -> x.trace(0));
        changesNothing("many", Sentences::school, x -> x.many(6));
    }

    static void theRest() {
        of(16, "THE REST: all HOURS yet, nobody being SENT OUT.");
        ShadowSchool x = alike(1, 4, 1, 1);
        x.dusk(16);
        x.lesson(1, -1, 15, 15, 1);
        x.lesson(2, -1, 0, 1, 1);
        due("HOURS 0 to 15", x.on(16), 3);
        due("all but the last", x.on(15), 2);
        x.hour();
        due("HOURS 1 to 15", x.on(16), 3);
        due("to the last", x.on(15), 3);
        x.anew();
        x.dusk(15);
        due("HOURS 0 to 14", x.on(16), 2);
        x.seed(3);
        due("nobody is SENT OUT, whatever z is", x.on(2), 2);
        due("in the last HOUR of THE REST", x.when(0, 0), NONE);
        x.dusk(16);
        due("in the last HOUR there is", x.when(0, 0), 15);
    }
}
