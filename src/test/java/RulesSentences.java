/** Sentences of the rules told in a text: promises 12 and 13, and the Terms that they go by. */
final class RulesSentences extends Sentences {
    private static void reads(String text, int rules) {
        ShadowSchool x = new ShadowSchool();
        due("'" + text + "'", read(x, text), rules);
        due("RULES of '" + text + "'", x.many(1), rules);
        due("THE TAPE behind '" + text + "'", x.many(5), 0);
    }

    private static void fault(String text, int place) {
        ShadowSchool x = new ShadowSchool();
        read(x, "joined easy; slow last;");
        due("'" + text + "'", read(x, text), -100 - place);
        due("RULES stay behind '" + text + "'", x.many(1), 2);
        due("THE TAPE behind '" + text + "'", x.many(5), 0);
    }

    /** Whether a condition holds for SHADOW 2 (slow, QUICK 3, TALL 5), which has LEARNT 1 LESSON, in HOUR 4. */
    private static void holds(String condition, boolean want) {
        ShadowSchool x = new ShadowSchool();
        x.shadow(1, 1, 1);
        x.shadow(1, 1, 1);
        x.shadow(4, 3, 5);
        x.lesson(1, -1, 0, 3, 6);
        x.lesson(20, -1, 4, 15, 6);
        pass(x, 4);
        due("'" + condition + "' is read", read(x, "slow if " + condition + " play;"), 1);
        due("'" + condition + "'", x.shadowOf(2, 5), want ? 8 : 1);
    }

    // ---- Terms

    static void theRulesAreAText() {
        of(13, "THE RULES are a TEXT.");
        reads("", 0);
        reads("shadow last;", 1);
    }

    static void theTapeTakes200() {
        of(12, "THE TAPE takes bytes, 200 at most;");
        ShadowSchool x = new ShadowSchool();
        feed(x, "s".repeat(199));
        due("199", x.many(5), 199);
        due("2 more", x.feed(0x7373, 2), FULL);
        due("1 more", x.feed(0x73, 1), 200);
        due("1 too many", x.feed(0x73, 1), FULL);
        due("200", x.many(5), 200);
        due("all of them are read", read(x, ""), -100);
        reads("slow if 1=1" + " and 1=1".repeat(22) + " ".repeat(8) + "last;", 1);
        reads(" ".repeat(190) + "slow last;", 1);
        fault(" ".repeat(190) + "slow last!", 199);
        fault(";".repeat(200), 0);
        fault("slow if(" + "(".repeat(192), 10);
        fault(" ".repeat(191) + "slow last", 200);
    }

    static void rulesUsesItUp() {
        of(13, "rules() uses it up.");
        ShadowSchool x = new ShadowSchool();
        feed(x, "slow last;");
        due("10 bytes", x.many(5), 10);
        due("read", x.rules(), 1);
        due("no bytes", x.many(5), 0);
        due("none is left to read", x.rules(), 0);
        due("so there are no RULES", x.many(1), 0);
        due("THE TAPE takes bytes again", x.feed(0x20, 1), 1);
    }

    static void textOfRules() {
        of(13, "TEXT: { KIND DO ; | KIND if COND DO ; },");
        reads("", 0);
        reads("   ", 0);
        reads("slow last;", 1);
        reads("slow if 1=1 last;", 1);
        reads("slow last;slow if 1=1 last;slow last;", 3);
        fault(";", 0);
        fault("last;", 0);
        fault("if 1=1 last;", 0);
        fault("slow;", 4);
        fault("slow slow last;", 5);
        fault("slow if last;", 8);
        fault("slow 1=1 last;", 5);
        fault("slow last", 9);
        fault("slow last last;", 10);
        fault("slow last;;", 10);
        fault("slow last if 1=1;", 10);
        fault("slow if 1=1;", 11);
        fault("slow if 1=1 if 1=1 last;", 12);
        fault("slow last; slow", 15);
        fault("slow last; slow if", 18);
    }

    static void eightRules() {
        of(13, "8 RULES at most.");
        reads("slow last;".repeat(7), 7);
        reads("slow last;".repeat(8), 8);
        reads("slow last;".repeat(8) + "   ", 8);
        fault("slow last;".repeat(9), 80);
        fault("slow last;".repeat(8) + "  joined easy", 82);
        ShadowSchool x = alike(1, 1, 1, 1);
        x.lesson(1, -1, 0, 15, 1);
        read(x, "slow last;".repeat(7) + "joined play;");
        due("the eighth counts", x.shadowOf(0, 5), 8);
    }

    static void namesOfKinds() {
        of(13, "KIND: shadow | joined | gifted | coloured | slow | borrowed.");
        String[] kinds = {"shadow", "joined", "gifted", "coloured", "slow", "borrowed"};
        for (String kind : kinds) {
            reads(kind + " last;", 1);
            fault(kind + "s last;", 0);
            fault(kind.substring(1) + " last;", 0);
            fault(kind.substring(0, kind.length() - 1) + " last;", 0);
            fault("slow " + kind + ";", 5);
        }
        fault("Slow last;", 0);
        fault("hour last;", 0);
        fault("not last;", 0);
    }

    static void namesOfDeeds() {
        of(13, "DO: last | easy | play.");
        for (String deed : new String[] {"last", "easy", "play"}) {
            reads("slow " + deed + ";", 1);
            fault("slow " + deed + "s;", 5);
            fault("slow " + deed.substring(1) + ";", 5);
            fault("slow " + deed.substring(0, 3) + ";", 5);
            fault(deed + " " + deed + ";", 0);
        }
        fault("slow and;", 5);
        fault("slow number;", 5);
        fault("slow 1;", 5);
    }

    static void orJoins() {
        of(13, "COND: ALL { or ALL }");
        holds("1=1", true);
        holds("1=2 or 1=1", true);
        holds("1=1 or 1=2", true);
        holds("1=2 or 1=2", false);
        holds("1=2 or 1=2 or 1=1", true);
        holds("1=1 or 1=2 or 1=2", true);
        holds("1=1 or 1=2 and 1=2", true);
        holds("1=2 and 1=2 or 1=1", true);
        holds("1=2 and 1=1 or 1=1 and 1=2", false);
        holds("1=2 or 1=1 and 1=1 or 1=2", true);
        holds("1=2 or ".repeat(20) + "1=1", true);
        holds("1=2 or ".repeat(20) + "1=2", false);
        holds("1=2or".repeat(36) + "1=1", true);
        holds("1=2or".repeat(36) + "1=2", false);
        holds("1=1or" + "1=2or".repeat(35) + "1=2", true);
        fault("slow if or 1=1 last;", 8);
        fault("slow if 1=1 or last;", 15);
        fault("slow if 1=1 or or 1=1 last;", 15);
        fault("slow if 1=1 or", 14);
    }

    static void andJoins() {
        of(13, "ALL: ONE { and ONE }");
        holds("1=1 and 1=1", true);
        holds("1=2 and 1=1", false);
        holds("1=1 and 1=2", false);
        holds("1=1 and 1=1 and 1=2", false);
        holds("1=1 and ".repeat(20) + "1=1", true);
        holds("1=1 and ".repeat(20) + "1=2", false);
        holds("1=1and".repeat(30) + "1=1", true);
        holds("1=1and".repeat(30) + "1=2", false);
        fault("slow if and 1=1 last;", 8);
        fault("slow if 1=1 and last;", 16);
        fault("slow if 1=1 and and 1=1 last;", 16);
        fault("slow if 1=1 1=1 last;", 12);
        fault("slow if 1=1 and", 15);
    }

    static void notTurns() {
        of(13, "ONE: { not } ( VALUE SIGN VALUE | \"(\" COND \")\" )");
        holds("not 1=1", false);
        holds("not 1=2", true);
        holds("not not 1=1", true);
        holds("not not not 1=1", false);
        holds("not not 1=2", false);
        holds("not ".repeat(43) + "1=2", true);
        holds("not 1=1 or 1=1", true);
        holds("not (1=1 or 1=1)", false);
        holds("not 1=2 and 1=2", false);
        holds("not (1=2 and 1=2)", true);
        holds("1=1 and not 1=2", true);
        holds("not (not 1=1)", true);
        holds("(1=1 or 1=1) and 1=2", false);
        holds("1=2 and (1=1 or 1=1)", false);
        fault("slow if not last;", 12);
        fault("slow if 1 not = 1 last;", 10);
        fault("slow if 1=1 not 1=1 last;", 12);
        fault("slow if 1 last;", 10);
        fault("slow if 1= last;", 11);
        fault("slow if 1==1 last;", 10);
        fault("slow if (1) last;", 10);
        fault("slow if () last;", 9);
        fault("slow if (1=1 last;", 13);
        fault("slow if 1=1) last;", 11);
        fault("slow if (1=1)) last;", 13);
        fault("slow if (1=1 and) last;", 16);
        fault("slow if (1=1) = (1=1) last;", 14);
        fault("slow if not", 11);
        fault("slow if (1=1", 12);
    }

    static void values() {
        of(13, "VALUE: N | hour | learnt | quick | tall | number");
        for (String value : new String[] {"7", "hour", "learnt", "quick", "tall", "number"}) {
            reads("slow if " + value + "=" + value + " last;", 1);
            holds(value + "=" + value, true);
        }
        fault("slow if slow = 1 last;", 8);
        fault("slow if 1 = last last;", 12);
        fault("slow if hours = 1 last;", 8);
        fault("slow if score = 1 last;", 8);
        fault("slow if -1 < 1 last;", 8);
        fault("slow if 1 > - last;", 12);
    }

    static void signs() {
        of(13, "SIGN: &lt; | = | &gt;");
        holds("1<2", true);
        holds("2<2", false);
        holds("3<2", false);
        holds("1=2", false);
        holds("2=2", true);
        holds("3=2", false);
        holds("1>2", false);
        holds("2>2", false);
        holds("3>2", true);
        fault("slow if 1;2 last;", 9);
        fault("slow if 1?2 last;", 9);
        fault("slow if 1!2 last;", 9);
        fault("slow if 1<=2 last;", 10);
        fault("slow if 1 2 last;", 10);
    }

    static void numbersTo9999() {
        of(13, "N are NUMBERS 0 to 9999.");
        holds("0 < 1", true);
        holds("9998 < 9999", true);
        holds("9999 = 9999", true);
        holds("9999 > 9998", true);
        holds("1000 > 999", true);
        holds("10 > 9", true);
        holds("0 = 0000", true);
        holds("0012 = 12", true);
        fault("slow if 10000 = 1 last;", 8);
        fault("slow if 1 = 10000 last;", 12);
    }

    static void facts() {
        of(13, "FACTS: the HOUR that comes; how many LESSONS it has LEARNT; its QUICK, TALL; its number.");
        holds("hour = 4", true);
        holds("hour < 4 or hour > 4", false);
        holds("learnt = 1", true);
        holds("quick = 3", true);
        holds("tall = 5", true);
        holds("number = 2", true);
        holds("learnt < number and number < quick and quick < hour and hour < tall", true);
        // They are told anew in each HOUR, also of HOURS that are only asked about.
        ShadowSchool x = alike(1, 4, 1, 1);
        x.dusk(16);
        x.lesson(1, -1, 0, 15, 1);
        x.lesson(1, -1, 0, 15, 1);
        read(x, "shadow if hour < 15 play;");
        due("HOUR 15", x.when(0, 0), 15);
        read(x, "shadow if not learnt = 0 play;");
        due("0 LEARNT", x.when(0, 0), 0);
        due("1 LEARNT", x.when(0, 1), NONE);
        read(x, "shadow if quick = 1 play;");
        due("QUICK as it is tried", x.quickFor(0), 2);
        read(x, "shadow if hour = 1 play;");
        x.hour();
        due("HOUR 1", x.shadowOf(0, 5), 8);
        x.hour();
        due("HOUR 2", x.shadowOf(0, 5), 1);
        // "learnt" counts LESSONS; LESSON 7 is one as others are.
        x = alike(1, 4, 1, 1);
        for (int l = 0; l < 8; l++) {
            x.lesson(1, -1, l == 7 ? 0 : 5, 15, 1);
        }
        x.hour();
        read(x, "shadow if learnt = 1 play;");
        pass(x, 4);
        due("one, if it is the eighth", x.shadowOf(0, 5), 8);
    }

    static void namesAndNumbers() {
        of(13, "NAMES are rows of letters a to z, NUMBERS rows of digits (1 to 4), both as long as they go;");
        fault("slowlast;", 0);
        fault("slow lastlast;", 5);
        fault("sl ow last;", 0);
        fault("slow la st;", 5);
        fault("slowa last;", 0);
        fault("slowz last;", 0);
        fault("slow`last;", 4);
        fault("slow{last;", 4);
        fault("sloW last;", 0);
        fault("slow_last;", 4);
        reads("slow if 1=1234 last;", 1);
        reads("slow if 0=9 last;", 1);
        fault("slow if 1=12345 last;", 10);
        fault("slow if 1=12 34 last;", 13);
        fault("slow if 1/=1 last;", 9);
        fault("slow if 1:=1 last;", 9);
        reads("slow if1=1last;", 1);
        reads("slow if hour=1and tall>2or 3<quick last;", 1);
        fault("slow if hour=1 andtall>2 last;", 15);
        fault("slow if nothour=1 last;", 8);
    }

    static void blanks() {
        of(13, "blanks (32) part them, and stand elsewhere as one likes.");
        reads("slow last;", 1);
        reads("  slow   last  ;  ", 1);
        reads(" slow if ( hour < 5 and not ( 1 = 2 ) ) last ; ", 1);
        reads("slow if(hour<5and not(1=2))last;", 1);
        fault("slow\tlast;", 4);
        fault("slow\nlast;", 4);
        fault("slow" + (char) 0 + "last;", 4);
        fault("slow" + (char) 31 + "last;", 4);
        fault("slow" + (char) 33 + "last;", 4);
        fault("slow" + (char) 160 + "last;", 4);
        fault(" \t", 1);
    }

    static void threeWithin() {
        of(13, "At most 3 \"(\" are open within one another.");
        reads("slow if (1=1) last;", 1);
        reads("slow if ((1=1)) last;", 1);
        reads("slow if (((1=1))) last;", 1);
        fault("slow if ((((1=1)))) last;", 11);
        fault("slow if ((( not (1=1)))) last;", 16);
        fault("slow if (((1=1 or (1=1)))) last;", 18);
        reads("slow if (((1=1))) and (((1=1))) last;", 1);
        reads("slow if (1=1) or (1=1) or (1=1) or (1=1) last;", 1);
        reads("slow if ((1=1) and ((1=1) or (1=1))) last;", 1);
        reads("slow if (((1=1))) last; slow if (((1=1))) last;", 2);
        holds("1=1 and (1=2 or 1=1 and (1=2 or 1=1 and (1=2 or 1=1 and 1=1)))", true);
        holds("1=1 and (1=2 or 1=1 and (1=2 or 1=1 and (1=2 or 1=1 and 1=2)))", false);
        holds("1=2 or 1=1 and (1=2 or 1=1 and (1=2 or 1=1 and (1=2 or 1=1 and not 1=2)))", true);
        holds("not (not (not (1=1)))", false);
    }

    static void faultIsThePlace() {
        of(13, "FAULT: the place (from 0) of the first byte of the first NAME, NUMBER or other byte "
            + "that can't stand there");
        fault("fast last;", 0);
        fault("   fast last;", 3);
        fault("slow fast;", 5);
        fault("slow 1234;", 5);
        fault("slow ?;", 5);
        fault("slow fast; fast slow", 5);
        fault("slow if hour < 1 hour last;", 17);
        fault("slow last;" + (char) 255, 10);
        fault("slow last; slow last! slow last", 20);
    }

    static void faultOfMoreDigits() {
        of(13, "(a NUMBER of more digits,");
        fault("slow if hour < 12345 last;", 15);
        fault("slow if 00001 < hour last;", 8);
        fault("slow if hour < 123456789012345678901234567890 last;", 15);
        fault("slow if hour < 12345", 15);
    }

    static void faultOfTheFourth() {
        of(13, "the fourth \"(\",");
        fault("slow if ((((", 11);
        fault("slow if ( ( ( (1=1", 14);
        reads("slow if (((1=1))) and ((1=1)) last;", 1);
    }

    static void faultOfTheNinth() {
        of(13, "the first NAME of the ninth RULE, too),");
        fault("slow last;".repeat(8) + "slow last;", 80);
        fault("slow last;".repeat(8) + "   slow", 83);
        fault("slow last;".repeat(8) + "fast", 80);
        fault("slow last;".repeat(8) + " ;", 81);
    }

    static void faultIsTheEnd() {
        of(13, "or the end (how many bytes there are), if more must come.");
        fault("slow", 4);
        fault("slow  ", 6);
        fault("slow if", 7);
        fault("slow if not", 11);
        fault("slow if (", 9);
        fault("slow if 1", 9);
        fault("slow if 1=", 10);
        fault("slow if 1=1", 11);
        fault("slow if 1=1 or", 14);
        fault("slow if 1=1 and ", 16);
        fault("slow if (1=1", 12);
        fault("slow if (1=1)", 13);
        fault("slow if 1=1 last", 16);
        fault("slow last", 9);
        fault("slow last; slow last", 20);
        fault(" ".repeat(196) + "slow", 200);
    }

    // ---- promises 12 and 13

    static void feedN() {
        of(12, "n bytes (1 to 8) come to THE TAPE, the lowest of eight first: how many it has.");
        long text = 's' | 'l' << 8 | 'o' << 16 | (long) 'w' << 24 | (long) ' ' << 32 | (long) 'x' << 40
            | (long) -1 << 48;
        for (int n = 1; n <= 8; n++) {
            ShadowSchool x = new ShadowSchool();
            due("n " + n, x.feed(text, n), n);
            due("bytes of n " + n, x.many(5), n);
            due("FAULT of n " + n, x.rules(), n <= 3 ? -100 : n <= 5 ? -100 - n : -105);
        }
        ShadowSchool x = new ShadowSchool();
        due("5", x.feed(text, 5), 5);
        due("5 more", x.feed('p' | 'l' << 8 | 'a' << 16 | (long) 'y' << 24 | (long) ';' << 32, 5), 10);
        due("they are 'slow play;'", x.rules(), 1);
        due("of a byte above 127", x.feed(0x80L << 56 | 0x20202020202020L, 8), 8);
        due("it can't stand there", x.rules(), -107);
        due("of the highest bit alone", x.feed(Long.MIN_VALUE, 1), 1);
        due("a byte 0 came", x.rules(), -100);
    }

    static void feedBadOrFull() {
        of(12, "BAD; FULL: more than 200.");
        for (int b : outside(1, 8)) {
            refused("n " + b, Sentences::school, x -> x.feed(0x20, b), BAD);
        }
        for (int n = 1; n <= 8; n++) {
            int some = n;
            refused(n + " with 200", Sentences::full, x -> x.feed(0x20, some), FULL);
            ShadowSchool x = new ShadowSchool();
            feed(x, " ".repeat(200 - n));
            due("just 200", x.feed(0x2020202020202020L, n), 200);
            ShadowSchool y = new ShadowSchool();
            feed(y, " ".repeat(201 - n));
            due("201", y.feed(0x2020202020202020L, n), FULL);
            due("none of them came", y.many(5), 201 - n);
        }
    }

    static void rulesInPlaceOfAll() {
        of(13, "THE TAPE tells THE RULES (in place of all): how many;");
        ShadowSchool x = alike(1, 1, 1, 1);
        x.lesson(1, -1, 0, 15, 1);
        due("three", read(x, "joined play; slow last; gifted easy;"), 3);
        due("they are", x.many(1), 3);
        due("by the first", x.shadowOf(0, 5), 8);
        due("one", read(x, "slow play;"), 1);
        due("it is", x.many(1), 1);
        due("nothing is left of the three", x.shadowOf(0, 5), 0);
        due("with a condition", read(x, "joined if 1 = 1 play;"), 1);
        due("it holds", x.shadowOf(0, 5), 8);
        due("with another condition", read(x, "joined if 2 = 3 play;"), 1);
        due("nothing is left of that one", x.shadowOf(0, 5), 0);
        due("none", read(x, ""), 0);
        due("there are none", x.many(1), 0);
        // Long ones, with a FAULT and without, leave nothing behind.
        for (int k = 0; k < 5; k++) {
            due("a long one", read(x, "joined if " + "1=2or".repeat(36) + "1=2play;"), 1);
            due("it doesn't hold", x.shadowOf(0, 5), 0);
            due("a long one that must go on", read(x, "joined if " + "1=1or".repeat(36) + "1=1play"), -297);
            due("a short one", read(x, "joined if 3=3 play;"), 1);
            due("that holds", x.shadowOf(0, 5), 8);
            due("another short one", read(x, "joined if 3=4 play;"), 1);
            due("that doesn't hold", x.shadowOf(0, 5), 0);
        }
    }

    static void rulesWithAFault() {
        of(13, "-100 less its FAULT.");
        ShadowSchool x = alike(1, 1, 1, 1);
        x.lesson(1, -1, 0, 15, 1);
        read(x, "joined if hour = 0 play;");
        due("the first byte", read(x, "fast last;"), -100);
        due("the ninth RULE", read(x, "joined last;".repeat(8) + "joined last;"), -196);
        due("the end of 200", read(x, "joined last;" + " ".repeat(182) + "joined"), -300);
        due("a condition more, and a FAULT", read(x, "joined if 1 = 2 last; joined if 3 = 3 easy"), -142);
        due("the RULE stays", x.many(1), 1);
        due("and what it tells", x.shadowOf(0, 5), 8);
        x.hour();
        due("and its condition", x.shadowOf(0, 5), 0);
    }
}
