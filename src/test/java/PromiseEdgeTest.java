/** The edges of promises 1 to 16: a method for each sentence that names one, and what stands after a refused call. */
public final class PromiseEdgeTest {
    private static final int OK = LinkedUnits.OK, SYNTAX = LinkedUnits.SYNTAX, TWICE = LinkedUnits.TWICE, BAD = LinkedUnits.BAD;
    private static final int DUPLICATE = LinkedUnits.DUPLICATE, MISSING = LinkedUnits.MISSING, MISMATCH = LinkedUnits.MISMATCH;
    private static final int LARGE = LinkedUnits.LARGE, ADDRESS = LinkedUnits.ADDRESS, LONG = LinkedUnits.LONG, DEPTH = LinkedUnits.DEPTH;
    private static final int LEAST = Integer.MIN_VALUE, MOST = Integer.MAX_VALUE;
    private static final int[] NO_UNITS = {-1, 5, 6, 256, LEAST, MOST};
    private static final int[] NO_NAMES = {-1, 12, 15, 16, 28, 256, LEAST, MOST};
    private static final String FIVE_WORDS = "DATA:6*2 NUM:60 FUNC:0/2 PUT LOCAL:0 LOCAL:1 RETURN NAME:6 END DATA:7*3 NUM:70";
    private static final String FORTY_EIGHT_WORDS = "DATA:0*8 NUM:1 DATA:1*8 NUM:2 DATA:2*8 NUM:3 DATA:3*8 NUM:4 DATA:4*8 NUM:5 DATA:11*8 NUM:6";

    public static void main(String[] args) {
        Check check = new Check();
        newObject(check);
        newUnits(check);
        newDraft(check);
        tokenOfNoKind(check);
        tokenWithAWrongValue(check);
        fiftyFirstToken(check);
        fiftyTokensAgain(check);
        unitNumbers(check);
        draftStaysAfterBad(check);
        draftIsEmptyAfterwards(check);
        unitStaysAfterAFault(check);
        badThenSyntaxThenTwice(check);
        unitBecomesShorter(check);
        lastUnitFullOrEmpty(check);
        unitLeavesWhatIsLinked(check);
        noPlaceYet(check);
        placeOfTheLatestFault(check);
        placeOfAToken(check);
        placeOfWhatIsMissing(check);
        placeOfASecondDefinition(check);
        includeNumbers(check);
        includedAlready(check);
        refusedIncludeLeavesTheList(check);
        listIsEmptyAfterLink(check);
        emptyList(check);
        linkFaultLeavesWhatIsLinked(check);
        linkAnew(check);
        orderOfLinkFaults(check);
        culpritOfTheLatestLink(check);
        leastDuplicate(check);
        sizes(check);
        atEdges(check);
        parametersEdges(check);
        peekEdges(check);
        pokeEdges(check);
        pokeWithoutMemory(check);
        argumentsAsManyAsParameters(check);
        runOfNothing(check);
        runOfANameThatIsNone(check);
        resultEdges(check);
        stepsEdges(check);
        afterBad(check);
        draftAndListAreApart(check);
        fiveHundredTwelveCalls(check);
        check.end("PromiseEdgeTest");
    }

    // Promise 1.

    private static void newObject(Check check) {
        check.sentence("nothing is linked");
        LinkedUnits x = new LinkedUnits();
        String zeros = " 0".repeat(48);
        String none = " -1/-1".repeat(12);
        check.unchanged("new", x, "place -1 culprit -1 size 0 result 0 steps 0 names" + none + " words" + zeros);
    }

    private static void newUnits(Check check) {
        check.sentence("All units are empty");
        for (int u = 0; u < 5; u++) {
            LinkedUnits x = check.units();
            check.link(x, "" + u, OK, -1);
            check.unchanged("an empty unit", x, Check.seen(new LinkedUnits()));
        }
    }

    private static void newDraft(Check check) {
        check.sentence("all drafts are empty");
        LinkedUnits x = new LinkedUnits();
        check.same("unit(0)", x.unit(0), OK);
        LinkedUnits y = new LinkedUnits();
        check.draft(y, "END");
        check.same("unit(0)", y.unit(0), SYNTAX);
        check.same("place()", y.place(), 0);
    }

    // Promise 2.

    private static void tokenOfNoKind(Check check) {
        check.sentence("False if kind is none of these");
        for (int kind : new int[] {LEAST, -1, 19, 30, MOST}) {
            LinkedUnits x = new LinkedUnits();
            check.same("the first token", x.token(kind, 0), false);
            check.draft(x, "FUNC:0 RETURN");
            check.same("a token between", x.token(kind, 0), false);
            check.draft(x, "NUM:5 END");
            check.same("the last token", x.token(kind, 0), false);
            check.same("unit(0)", x.unit(0), OK);
            check.link(x, "0", OK, -1);
            check.run(x, 0, 0, 0, OK, 5, 1);
        }
    }

    private static void tokenWithAWrongValue(Check check) {
        check.sentence("False if .. a value that is looked at is not as said");
        int[] kinds = {1, 2, 3, 5, 20, 28, 29};
        int[] last = {5, 11, 11, 59, 5, 123, 251};
        for (int i = 0; i < kinds.length; i++) {
            LinkedUnits x = new LinkedUnits();
            check.same("below", x.token(kinds[i], -1), false);
            check.same("above", x.token(kinds[i], last[i] + 1), false);
            check.same("unit(0) of nothing", x.unit(0), OK);
            check.same("the first", x.token(kinds[i], 0), true);
            check.same("the last", x.token(kinds[i], last[i]), true);
            check.same("unit(0) of both", x.unit(0), SYNTAX);
        }
    }

    private static void fiftyFirstToken(Check check) {
        check.sentence("False if .. there are 50");
        LinkedUnits x = new LinkedUnits();
        check.draft(x, FIVE_WORDS + " FUNC:1 DO NOT NUM:1" + " DO NUM:1".repeat(17));
        check.same("a refused token does not count", x.token(19, 0), false);
        check.same("the 50th token", x.token(27, 0), true);
        for (int kind = 0; kind <= 29; kind++) {
            check.same("the 51st token " + kind, x.token(kind, 0), false);
        }
        check.same("unit(0)", x.unit(0), OK);
        check.link(x, "0", OK, -1);
        check.same("size()", x.size(), 5);
        check.runOf(x, 1, new int[3], OK, 0, 1);
    }

    private static void fiftyTokensAgain(Check check) {
        check.sentence("False if .. there are 50");
        LinkedUnits x = new LinkedUnits();
        int[] answers = {SYNTAX, TWICE, OK};
        String[] ends = {" DO", " END DATA:0 NUM:1", " END DATA:1 NUM:1"};
        int[] repeats = {24, 23, 23};
        for (int i = 0; i < 3; i++) {
            check.draft(x, "FUNC:0" + " DO NUM:1".repeat(repeats[i]) + ends[i]);
            check.same("the 51st token", x.token(27, 0), false);
            check.same("unit(5)", x.unit(5), BAD);
            check.same("the 51st token after BAD", x.token(27, 0), false);
            check.same("unit(4)", x.unit(4), answers[i]);
        }
    }

    // Promise 3.

    private static void unitNumbers(Check check) {
        check.sentence("BAD .. if u is outside 0..4");
        for (int u = 0; u <= 4; u++) {
            LinkedUnits x = new LinkedUnits();
            check.unit(x, u, "FUNC:3/" + u % 4 + " END");
            check.link(x, "0 1 2 3 4", OK, -1);
            check.same("parameters(3)", x.parameters(3), u % 4);
            check.link(x, "" + (u + 1) % 5, OK, -1);
            check.same("the other units", x.parameters(3), -1);
        }
        for (int u : NO_UNITS) {
            LinkedUnits x = new LinkedUnits();
            check.draft(x, "FUNC:3 END");
            check.same("unit(" + u + ")", x.unit(u), BAD);
            check.link(x, "0 1 2 3 4", OK, -1);
            check.same("parameters(3)", x.parameters(3), -1);
        }
    }

    private static void draftStaysAfterBad(Check check) {
        check.sentence("BAD (the draft stays)");
        for (int u : NO_UNITS) {
            LinkedUnits x = new LinkedUnits();
            check.draft(x, "FUNC:3/1 RETURN");
            check.same("unit(" + u + ")", x.unit(u), BAD);
            check.draft(x, "LOCAL:0 END");
            check.same("unit(" + u + ") again", x.unit(u), BAD);
            check.same("place()", x.place(), -1);
            check.same("unit(4)", x.unit(4), OK);
            check.link(x, "4", OK, -1);
            check.runOf(x, 3, new int[] {8, 0, 0}, OK, 8, 1);
        }
    }

    private static void draftIsEmptyAfterwards(Check check) {
        check.sentence("the draft is empty afterwards also with SYNTAX and TWICE");
        int[] answers = {OK, SYNTAX, SYNTAX, TWICE};
        String[] drafts = {"FUNC:0 END", "FUNC:0", "END", "FUNC:0 END FUNC:0 END"};
        for (int i = 0; i < 4; i++) {
            LinkedUnits x = new LinkedUnits();
            check.draft(x, drafts[i]);
            check.same("unit(0) of " + drafts[i], x.unit(0), answers[i]);
            check.same("unit(0) of nothing", x.unit(0), OK);
            check.unit(x, 1, "FUNC:0/3 END");
            check.link(x, "0 1", OK, -1);
            check.same("parameters(0)", x.parameters(0), 3);
        }
    }

    private static void unitStaysAfterAFault(Check check) {
        check.sentence("the unit stays in these cases");
        String[] drafts = {"FUNC:5 END FUNC:6", "FUNC:5 END END", "FUNC:5 END DATA:5 NUM:1"};
        for (String draft : drafts) {
            LinkedUnits x = check.units(FIVE_WORDS);
            check.draft(x, draft);
            check.same("unit(0) of " + draft, x.unit(0) != OK, true);
            check.draft(x, "FUNC:5 END");
            check.same("unit(5)", x.unit(5), BAD);
            check.link(x, "0", OK, -1);
            check.same("size()", x.size(), 5);
            check.same("parameters(5)", x.parameters(5), -1);
            check.run(x, 4, 9, 0, OK, 60, 1);
        }
    }

    private static void badThenSyntaxThenTwice(Check check) {
        check.sentence("BAD is tested first, then SYNTAX, then TWICE");
        LinkedUnits x = new LinkedUnits();
        check.draft(x, "FUNC:0 END FUNC:0 END DATA:0");
        check.same("unit(-1)", x.unit(-1), BAD);
        check.same("unit(0)", x.unit(0), SYNTAX);
        check.same("place()", x.place(), 5);
        check.draft(x, "FUNC:0 END FUNC:0 END END DATA:0 NUM:1");
        check.same("unit(5)", x.unit(5), BAD);
        check.same("unit(0)", x.unit(0), SYNTAX);
        check.same("place()", x.place(), 4);
        check.draft(x, "FUNC:0 END FUNC:0 END DATA:0 NUM:1");
        check.same("unit(5)", x.unit(5), BAD);
        check.same("place() after BAD", x.place(), 4);
        check.same("unit(0)", x.unit(0), TWICE);
        check.same("place()", x.place(), 2);
    }

    private static void unitBecomesShorter(Check check) {
        check.sentence("Unit u becomes what is drafted");
        for (String text : new String[] {"DATA:1 NUM:1", "FUNC:1 END", ""}) {
            LinkedUnits x = check.units("FUNC:0 DO CALL:4 END", "FUNC:2 END", "", "", "DATA:3 NUM:1 FUNC:4 DO CALL:9 END DATA:5 NUM:1");
            check.link(x, "0 4L", MISSING, 9);
            check.unit(x, 4, text);
            check.link(x, "0 4L", MISSING, 4);
            check.link(x, "0 4", MISSING, 4);
            check.link(x, "1 4", OK, -1);
            for (int name = 3; name < 12; name++) {
                check.same("at(" + name + ")", x.at(name), -1);
                check.same("parameters(" + name + ")", x.parameters(name), -1);
            }
        }
    }

    private static void lastUnitFullOrEmpty(Check check) {
        check.sentence("BAD .. if u is outside 0..4");
        LinkedUnits x = check.units("FUNC:0 RETURN CALL:4 END");
        check.unit(x, 4, "FUNC:5" + " DO NUM:1".repeat(22) + " END FUNC:4 RETURN NUM:3 END");
        check.link(x, "0 4L", OK, -1);
        check.run(x, 0, 0, 0, OK, 3, 2);
        check.link(x, "4L 0", MISSING, 4);
        check.link(x, "4", OK, -1);
        check.unit(x, 4, "");
        check.link(x, "0 4L", MISSING, 4);
    }

    private static void unitLeavesWhatIsLinked(Check check) {
        check.sentence("(What was linked stays as it was.)");
        LinkedUnits x = check.linked(FIVE_WORDS);
        check.run(x, 4, 9, 0, OK, 60, 1);
        String before = Check.seen(x);
        check.unit(x, 0, "FUNC:0/1 END DATA:1*4 NUM:3");
        check.unchanged("unit(0)", x, before);
        check.unit(x, 0, "");
        check.unchanged("unit(0) of nothing", x, before);
        check.run(x, 3, 8, 0, OK, 60, 1);
        check.same("peek(3)", x.peek(3), 8);
        check.link(x, "0", OK, -1);
        check.same("size() when linked again", x.size(), 0);
    }

    // Promise 4.

    private static void noPlaceYet(Check check) {
        check.sentence("-1 if none was");
        LinkedUnits x = new LinkedUnits();
        check.same("place()", x.place(), -1);
        check.unit(x, 0, "FUNC:0 END");
        check.same("place() after OK", x.place(), -1);
        check.draft(x, "END");
        check.same("place() with a draft", x.place(), -1);
        check.same("unit(5)", x.unit(5), BAD);
        check.same("place() after BAD", x.place(), -1);
    }

    private static void placeOfTheLatestFault(Check check) {
        check.sentence("Of the latest unit() that was SYNTAX or TWICE");
        LinkedUnits x = new LinkedUnits();
        check.refused(x, SYNTAX, 3, "FUNC:0 DO NUM:1 NUM:2 END");
        check.unit(x, 0, "FUNC:0 END");
        check.same("place() after OK", x.place(), 3);
        check.same("unit(-1)", x.unit(-1), BAD);
        check.same("place() after BAD", x.place(), 3);
        check.draft(x, "FUNC:0 END FUNC:0 END");
        check.same("place() with a draft", x.place(), 3);
        check.same("unit(0)", x.unit(0), TWICE);
        check.same("place()", x.place(), 2);
        check.link(x, "0", OK, -1);
        check.run(x, 0, 0, 0, OK, 0, 1);
        check.same("place() after link() and run()", x.place(), 2);
        check.refused(x, SYNTAX, 0, "END");
    }

    private static void placeOfAToken(Check check) {
        check.sentence("the first token such that no unit begins with the tokens up to it and with it");
        check.refusedAlone(SYNTAX, 0, "NUM:1 FUNC:0");
        check.refusedAlone(SYNTAX, 1, "FUNC:0 FUNC:0");
        check.refusedAlone(SYNTAX, 2, "FUNC:0 END END FUNC:0");
        check.refusedAlone(SYNTAX, 49, "FUNC:0" + " DO NUM:1".repeat(24) + " NUM:1");
        check.refusedAlone(SYNTAX, 48, "FUNC:0" + " DO NUM:1".repeat(23) + " END END DATA:0");
    }

    private static void placeOfWhatIsMissing(Check check) {
        check.sentence("or their number if something is missing");
        String[] words = "FUNC:0 IF ADD NUM:1 GET CALL:1/2 NUM:2 LOCAL:5 WHILE NOT NAME:3 END ELSE PUT AT:3 NUM:4 RETURN NUM:5 END DO NUM:6 END".split(" ");
        StringBuilder draft = new StringBuilder();
        for (int i = 0; i < words.length - 1; i++) {
            draft.append(" ").append(words[i]);
            check.refusedAlone(SYNTAX, i + 1, draft.toString());
        }
        check.unit(new LinkedUnits(), 0, draft + " END");
        check.refusedAlone(SYNTAX, words.length + 1, draft + " END DATA:1");
        check.refusedAlone(SYNTAX, words.length + 1, draft + " END FUNC:1");
        check.refusedAlone(SYNTAX, 50, "FUNC:0 DO" + " GET".repeat(48));
    }

    private static void placeOfASecondDefinition(Check check) {
        check.sentence("the FUNC or DATA that defines a name a second time");
        check.refusedAlone(TWICE, 2, "DATA:0 NUM:1 DATA:0 NUM:1 DATA:0 NUM:1");
        check.refusedAlone(TWICE, 4, "DATA:0 NUM:1 DATA:1 NUM:1 FUNC:1 END FUNC:0 END");
        check.refusedAlone(TWICE, 48, "FUNC:11" + " DO NUM:1".repeat(23) + " END DATA:11 NUM:1");
    }

    // Promise 5.

    private static void includeNumbers(Check check) {
        check.sentence("False if u is outside 0..4");
        LinkedUnits x = check.units("FUNC:0 END", "FUNC:1 END", "FUNC:2 END", "FUNC:3 END", "FUNC:4 END");
        for (int u : NO_UNITS) {
            check.same("include(" + u + ")", x.include(u, false), false);
            check.same("include(" + u + ", true)", x.include(u, true), false);
        }
        check.link(x, "", OK, -1);
        for (int u = 0; u < 5; u++) {
            check.same("parameters(" + u + ")", x.parameters(u), -1);
        }
        check.link(x, "0 4", OK, -1);
        for (int u = 0; u < 5; u++) {
            check.same("parameters(" + u + ")", x.parameters(u), u % 4 == 0 ? 0 : -1);
        }
    }

    private static void includedAlready(Check check) {
        check.sentence("False if u is .. in the list");
        LinkedUnits x = new LinkedUnits();
        for (int u = 0; u < 5; u++) {
            check.same("include(" + u + ")", x.include(u, u % 2 == 0), true);
            for (int earlier = 0; earlier <= u; earlier++) {
                check.same("include(" + earlier + ") again", x.include(earlier, false), false);
                check.same("include(" + earlier + ", true) again", x.include(earlier, true), false);
            }
        }
        check.same("link()", x.link(), OK);
        for (int u = 4; u >= 0; u--) {
            check.same("include(" + u + ") after link()", x.include(u, false), true);
        }
    }

    private static void refusedIncludeLeavesTheList(Check check) {
        check.sentence("False if u is .. in the list");
        LinkedUnits x = check.units("DATA:0 NUM:1", "DATA:1*2 NUM:2");
        check.same("include(1)", x.include(1, true), true);
        check.same("include(1) plain", x.include(1, false), false);
        check.link(x, "", OK, -1);
        check.same("it is LIBRARY still", x.size(), 0);
        check.same("include(1)", x.include(1, false), true);
        check.same("include(0)", x.include(0, false), true);
        check.same("include(1) as LIBRARY", x.include(1, true), false);
        check.same("include(1) again", x.include(1, false), false);
        check.same("include(5)", x.include(5, false), false);
        check.link(x, "", OK, -1);
        check.same("it is plain still", x.size(), 3);
        check.same("it is the first still", x.at(1), 0);
        check.same("the other one is behind it", x.at(0), 2);
    }

    // Promise 6.

    private static LinkedUnits withFaults(Check check) {
        return check.units(FIVE_WORDS, "FUNC:0 END", "FUNC:1 DO CALL:9 END", "FUNC:1 DO CALL:6 END", FORTY_EIGHT_WORDS.replace("DATA:0*8 NUM:1", "DATA:5*8 NUM:1"));
    }

    private static void listIsEmptyAfterLink(Check check) {
        check.sentence("the list is empty afterwards whatever it answers");
        String[] lists = {"0", "0 1", "0 2", "0 3", "0 4"};
        int[] answers = {OK, DUPLICATE, MISSING, MISMATCH, LARGE};
        int[] culprits = {-1, 0, 9, 6, -1};
        for (int i = 0; i < 5; i++) {
            LinkedUnits x = withFaults(check);
            check.link(x, lists[i], answers[i], culprits[i]);
            check.link(x, "", OK, -1);
            check.same("size()", x.size(), 0);
            check.link(x, "4 3L 2L 1L 0L", OK, -1);
            check.same("size()", x.size(), 48);
        }
    }

    private static void emptyList(Check check) {
        check.sentence("Links the list, which is empty then");
        LinkedUnits x = check.linked(FIVE_WORDS);
        check.run(x, 4, 9, 0, OK, 60, 1);
        check.link(x, "", OK, -1);
        String fresh = Check.seen(new LinkedUnits());
        check.unchanged("the empty list", x, fresh.replace("result 0 steps 0", "result 60 steps 1"));
        check.run(x, 0, 0, 0, BAD, 0, 1);
    }

    private static void linkFaultLeavesWhatIsLinked(Check check) {
        check.sentence("or the first fault (what was linked before stays then)");
        String[] lists = {"0 1", "0 2", "3 0", "4 0"};
        int[] answers = {DUPLICATE, MISSING, MISMATCH, LARGE};
        int[] culprits = {0, 9, 6, -1};
        for (int i = 0; i < 4; i++) {
            LinkedUnits x = withFaults(check);
            check.link(x, "0", OK, -1);
            check.same("poke(1)", x.poke(1, 61), true);
            check.run(x, 4, 9, 0, OK, 60, 1);
            String before = Check.seen(x);
            check.link(x, lists[i], answers[i], culprits[i]);
            check.unchanged("a fault", x, before.replace("culprit -1", "culprit " + culprits[i]));
            check.run(x, 0, 7, 0, OK, 7, 1);
        }
        LinkedUnits y = withFaults(check);
        check.link(y, "0 1", DUPLICATE, 0);
        check.unchanged("a fault with nothing linked", y, Check.seen(new LinkedUnits()).replace("culprit -1", "culprit 0"));
    }

    private static void linkAnew(Check check) {
        check.sentence("Links the list");
        LinkedUnits x = check.units(FIVE_WORDS, "FUNC:3/3 RETURN LOCAL:2 END");
        check.link(x, "0", OK, -1);
        check.link(x, "1", OK, -1);
        check.same("parameters(0)", x.parameters(0), -1);
        check.same("parameters(3)", x.parameters(3), 3);
        check.same("at(6)", x.at(6), -1);
        check.same("size()", x.size(), 0);
        check.same("peek(0)", x.peek(0), 0);
        check.run(x, 0, 0, 0, BAD, 0, 0);
        check.runOf(x, 3, new int[] {1, 2, 3}, OK, 3, 1);
        check.link(x, "1 0", OK, -1);
        check.same("size()", x.size(), 5);
        check.same("peek(4)", x.peek(4), 70);
    }

    private static void orderOfLinkFaults(Check check) {
        check.sentence("DUPLICATE is tested first, then MISSING and MISMATCH name by name, then LARGE");
        LinkedUnits x = check.units(FORTY_EIGHT_WORDS, "DATA:10 NUM:1", "FUNC:10 END", "FUNC:7 DO CALL:5 DO CALL:1 END", "FUNC:8 DO CALL:9 END");
        check.link(x, "4 3 2 1 0", DUPLICATE, 10);
        check.link(x, "4 3 1 0", MISMATCH, 1);
        check.link(x, "4 1 0", MISSING, 9);
        check.link(x, "0 1", LARGE, -1);
        check.link(x, "3 4", MISSING, 1);
        check.unit(x, 3, "FUNC:7 DO CALL:5 DO CALL:11 END");
        check.link(x, "4 3 1 0", MISSING, 5);
        check.unit(x, 3, "FUNC:7 DO CALL:11 END");
        check.link(x, "4 3 1 0", MISSING, 9);
        check.link(x, "3 1 0", MISMATCH, 11);
    }

    // Promise 7.

    private static void culpritOfTheLatestLink(Check check) {
        check.sentence("The name at which the latest link() was DUPLICATE, MISSING or MISMATCH; -1 else");
        LinkedUnits x = withFaults(check);
        check.same("culprit() before link()", x.culprit(), -1);
        check.link(x, "0 2", MISSING, 9);
        check.link(x, "0 4", LARGE, -1);
        check.link(x, "0 3", MISMATCH, 6);
        check.link(x, "0 1", DUPLICATE, 0);
        check.same("unit(5)", x.unit(5), BAD);
        check.refused(x, SYNTAX, 0, "END");
        check.same("include(0)", x.include(0, false), true);
        check.same("run(0)", x.run(0, 0, 0, 0), BAD);
        check.same("culprit() after other calls", x.culprit(), 0);
        check.link(x, "", OK, -1);
        check.link(x, "0 2", MISSING, 9);
        check.link(x, "", OK, -1);
    }

    private static void leastDuplicate(Check check) {
        check.sentence("DUPLICATE (the least one)");
        LinkedUnits x = check.units("FUNC:11 END DATA:4 NUM:1 FUNC:0w END", "DATA:11 NUM:1 FUNC:4 END FUNC:0 END", "FUNC:11 END FUNC:0 END", "FUNC:11 END");
        check.link(x, "0 1", DUPLICATE, 4);
        check.link(x, "1 0", DUPLICATE, 4);
        check.link(x, "0 3", DUPLICATE, 11);
        check.link(x, "0 2", DUPLICATE, 11);
        check.link(x, "3 0 1 2", DUPLICATE, 0);
    }

    // Promises 8 to 10.

    private static void sizes(Check check) {
        check.sentence("the number of words of the memory in use; 0 if nothing is");
        LinkedUnits x = new LinkedUnits();
        check.same("size()", x.size(), 0);
        check.unit(x, 0, FORTY_EIGHT_WORDS);
        check.same("size() before link()", x.size(), 0);
        check.link(x, "0L", OK, -1);
        check.same("size() of a LIBRARY not taken", x.size(), 0);
        check.link(x, "0", OK, -1);
        check.same("size()", x.size(), 48);
        check.unit(x, 1, "DATA:9 NUM:0");
        check.link(x, "1", OK, -1);
        check.same("size()", x.size(), 1);
        check.unit(x, 1, "FUNC:9 END");
        check.link(x, "1", OK, -1);
        check.same("size() of a FUNC", x.size(), 0);
    }

    private static void atEdges(Check check) {
        check.sentence("the place of the DATA with this name; -1 if there is none");
        LinkedUnits x = check.units(FORTY_EIGHT_WORDS.replace("DATA:0*8", "DATA:0*7") + " DATA:5 NUM:1 FUNC:6 DO NAME:0 END", "DATA:7 NUM:1");
        check.link(x, "0 1L", OK, -1);
        int[] due = {0, 7, 15, 23, 31, 47, -1, -1, -1, -1, -1, 39};
        for (int name = 0; name < 12; name++) {
            check.same("at(" + name + ")", x.at(name), due[name]);
        }
        for (int name : NO_NAMES) {
            check.same("at(" + name + ")", x.at(name), -1);
        }
    }

    private static void parametersEdges(Check check) {
        check.sentence("how many parameters the FUNC with this name has; -1 if there is none");
        LinkedUnits x = check.units("FUNC:0 END FUNC:1/1w END FUNC:2/2 END FUNC:11/3w END DATA:5*4 NUM:1", "FUNC:7 END");
        check.link(x, "0 1L", OK, -1);
        int[] due = {0, 1, 2, -1, -1, -1, -1, -1, -1, -1, -1, 3};
        for (int name = 0; name < 12; name++) {
            check.same("parameters(" + name + ")", x.parameters(name), due[name]);
        }
        for (int name : NO_NAMES) {
            check.same("parameters(" + name + ")", x.parameters(name), -1);
        }
    }

    // Promises 11 and 12.

    private static void peekEdges(Check check) {
        check.sentence("The word at a place; 0 if it is not in use");
        LinkedUnits x = check.units(FORTY_EIGHT_WORDS, FIVE_WORDS);
        check.link(x, "0", OK, -1);
        check.same("peek(0)", x.peek(0), 1);
        check.same("peek(47)", x.peek(47), 6);
        for (int place : new int[] {-1, 48, 49, 64, 256, LEAST, MOST}) {
            check.same("peek(" + place + ")", x.peek(place), 0);
        }
        check.link(x, "1", OK, -1);
        check.same("peek(4)", x.peek(4), 70);
        for (int place : new int[] {-1, 5, 6, 47, 48}) {
            check.same("peek(" + place + ") of 5 words", x.peek(place), 0);
        }
    }

    private static void pokeEdges(Check check) {
        check.sentence("That word becomes v. False if it is not in use");
        for (String text : new String[] {FIVE_WORDS, FORTY_EIGHT_WORDS, "DATA:3 NUM:9"}) {
            LinkedUnits x = check.linked(text);
            int size = x.size();
            String before = Check.seen(x);
            for (int place : new int[] {-1, size, size + 1, 48, 49, 64, 256, LEAST, MOST}) {
                check.same("poke(" + place + ")", x.poke(place, 5), false);
            }
            check.unchanged("a refused poke", x, before);
            for (int v : new int[] {LEAST, MOST, 0, -1}) {
                check.same("poke(0)", x.poke(0, v), true);
                check.same("peek(0)", x.peek(0), v);
                check.same("poke(" + (size - 1) + ")", x.poke(size - 1, v), true);
                check.same("peek(" + (size - 1) + ")", x.peek(size - 1), v);
            }
        }
    }

    private static void pokeWithoutMemory(Check check) {
        check.sentence("False if it is not in use");
        LinkedUnits x = new LinkedUnits();
        check.same("poke(0)", x.poke(0, 5), false);
        check.same("peek(0)", x.peek(0), 0);
        check.unit(x, 0, FIVE_WORDS);
        check.same("poke(0) before link()", x.poke(0, 5), false);
        check.link(x, "0", OK, -1);
        check.same("peek(0)", x.peek(0), 60);
        check.same("poke(0)", x.poke(0, 5), true);
        check.link(x, "", OK, -1);
        check.same("poke(0) with nothing linked", x.poke(0, 6), false);
        check.same("peek(0) with nothing linked", x.peek(0), 0);
    }

    // Promises 13 to 15.

    private static void argumentsAsManyAsParameters(Check check) {
        check.sentence("with as many of these arguments as it has parameters");
        int[] due = {0, 1, 21, 321};
        for (int count = 0; count <= 3; count++) {
            LinkedUnits x = check.linked("FUNC:11/" + count + " RETURN ADD LOCAL:0 ADD MUL NUM:10 LOCAL:1 MUL NUM:100 LOCAL:2 END");
            check.runOf(x, 11, new int[] {1, 2, 3}, OK, due[count], 1);
            check.runOf(x, 11, new int[] {0, 0, 0}, OK, 0, 1);
        }
    }

    private static void runOfNothing(Check check) {
        check.sentence("BAD if nothing linked has it");
        LinkedUnits x = check.units("FUNC:0 RETURN NUM:4 END", "FUNC:1 DO CALL:9 END");
        check.run(x, 0, 0, 0, BAD, 0, 0);
        check.link(x, "0 1", MISSING, 9);
        check.run(x, 0, 0, 0, BAD, 0, 0);
        check.link(x, "0L", OK, -1);
        check.run(x, 0, 0, 0, BAD, 0, 0);
        check.link(x, "0", OK, -1);
        check.run(x, 0, 0, 0, OK, 4, 1);
        check.runOf(x, 1, new int[3], BAD, 0, 1);
        check.link(x, "", OK, -1);
        check.run(x, 0, 0, 0, BAD, 0, 1);
    }

    private static void runOfANameThatIsNone(Check check) {
        check.sentence("BAD if nothing linked has it");
        LinkedUnits x = check.linked(FIVE_WORDS + " FUNC:11 RETURN NUM:9 END");
        check.runOf(x, 11, new int[3], OK, 9, 1);
        String before = Check.seen(x);
        for (int name : NO_NAMES) {
            check.same("run(" + name + ")", x.run(name, 0, 8, 0), BAD);
        }
        for (int name : new int[] {1, 6, 7, 10}) {
            check.same("run(" + name + ")", x.run(name, 0, 8, 0), BAD);
        }
        check.unchanged("BAD", x, before.replace("result 9", "result 0"));
    }

    private static LinkedUnits withRuns(Check check) {
        return check.linked("FUNC:0 RETURN NUM:7 END FUNC:1 RETURN GET NUM:-1 END FUNC:2 WHILE NUM:1 END RETURN NUM:7 END FUNC:3 RETURN CALL:3 END FUNC:4/1 RETURN LOCAL:0 END");
    }

    private static void resultEdges(Check check) {
        check.sentence("What the latest run gave; 0 if it was not OK, or there was none");
        LinkedUnits x = withRuns(check);
        check.same("result() before run()", x.result(), 0);
        int[] names = {1, 2, 3, 5, 12, -1};
        int[] answers = {ADDRESS, LONG, DEPTH, BAD, BAD, BAD};
        for (int i = 0; i < names.length; i++) {
            check.same("run(0)", x.run(0, 0, 0, 0), OK);
            check.same("result()", x.result(), 7);
            check.same("result() again", x.result(), 7);
            check.same("run(" + names[i] + ")", x.run(names[i], 0, 0, 0), answers[i]);
            check.same("result() after " + answers[i], x.result(), 0);
        }
        for (int v : new int[] {LEAST, -1, 0, 1, MOST}) {
            check.runOf(x, 4, new int[] {v, 0, 0}, OK, v, 1);
        }
        check.link(x, "", OK, -1);
        check.same("result() after link()", x.result(), MOST);
    }

    private static void stepsEdges(Check check) {
        check.sentence("How many STEPS the latest run that was not BAD took (200 at LONG)");
        LinkedUnits x = withRuns(check);
        check.same("steps() before run()", x.steps(), 0);
        check.same("run(12)", x.run(12, 0, 0, 0), BAD);
        check.same("steps() after BAD alone", x.steps(), 0);
        int[] names = {0, 1, 2, 3};
        int[] due = {1, 1, 200, 11};
        for (int i = 0; i < names.length; i++) {
            x.run(names[i], 0, 0, 0);
            check.same("steps() of " + names[i], x.steps(), due[i]);
            check.same("run(5)", x.run(5, 0, 0, 0), BAD);
            check.same("steps() after BAD", x.steps(), due[i]);
        }
        check.link(x, "", OK, -1);
        check.same("steps() after link()", x.steps(), 11);
    }

    // Promise 16.

    private static void afterBad(Check check) {
        check.sentence("after BAD, result is 0, and steps stays as it was");
        LinkedUnits x = withRuns(check);
        check.runOf(x, 2, new int[3], LONG, 0, 200);
        check.runOf(x, 5, new int[3], BAD, 0, 200);
        check.runOf(x, 5, new int[3], BAD, 0, 200);
        check.runOf(x, 4, new int[] {6, 0, 0}, OK, 6, 1);
        check.runOf(x, 5, new int[3], BAD, 0, 1);
        check.runOf(x, 3, new int[3], DEPTH, 0, 11);
        check.runOf(x, 12, new int[3], BAD, 0, 11);
    }

    private static void draftAndListAreApart(Check check) {
        check.sentence("Appends a token to the draft; Appends unit u to the list");
        LinkedUnits x = check.units("FUNC:0 RETURN NUM:1 END");
        check.draft(x, "FUNC:1 RETURN");
        check.link(x, "0", OK, -1);
        check.run(x, 0, 0, 0, OK, 1, 1);
        check.draft(x, "NUM:2 END");
        check.same("include(1)", x.include(1, false), true);
        check.same("unit(1)", x.unit(1), OK);
        check.run(x, 0, 0, 0, OK, 1, 1);
        check.runOf(x, 1, new int[3], BAD, 0, 1);
        check.link(x, "0", OK, -1);
        check.runOf(x, 1, new int[3], OK, 2, 1);
        check.run(x, 0, 0, 0, OK, 1, 1);
    }

    private static void fiveHundredTwelveCalls(Check check) {
        check.sentence("An object is used for at most 512 calls after it has been made");
        LinkedUnits x = new LinkedUnits();
        for (int call = 0; call < 450; call++) {
            check.same("a token", x.token(27, call), call < 50);
        }
        check.same("unit(0)", x.unit(0), SYNTAX);
        check.same("place()", x.place(), 0);
        for (int call = 0; call < 48; call++) {
            check.same("peek()", x.peek(call), 0);
        }
        // 500 calls so far.
        check.draft(x, "FUNC:0 RETURN NUM:9 END DATA:1 NUM:5");
        check.same("unit(0)", x.unit(0), OK);
        check.same("include(0)", x.include(0, false), true);
        check.same("link()", x.link(), OK);
        check.same("run(0)", x.run(0, 0, 0, 0), OK);
        check.same("peek(0)", x.peek(0), 5);
        check.same("the 512th call", x.result(), 9);
    }
}
