/** Promises 3, 4 and 16: which drafts become units, and where the others fail. */
public final class UnitTest {
    private static final int SYNTAX = LinkedUnits.SYNTAX, TWICE = LinkedUnits.TWICE;

    public static void main(String[] args) {
        Check check = new Check();
        goodUnits(check);
        wrongTokens(check);
        missingTokens(check);
        namesTwice(check);
        syntaxBeforeTwice(check);
        badNumbers(check);
        refusedDraftLeavesTheUnit(check);
        placeIsOfTheLatestFault(check);
        linkedStays(check);
        fullDrafts(check);
        check.end("UnitTest");
    }

    private static void goodUnits(Check check) {
        LinkedUnits x = new LinkedUnits();
        check.unit(x, 0, "");
        check.unit(x, 1, "FUNC:0 END");
        check.unit(x, 2, "DATA:0 NUM:-2147483648 FUNC:1/3w END DATA:2*8w NUM:5");
        check.unit(x, 3, "FUNC:0 IF NUM:1 ELSE END IF NUM:1 END WHILE NUM:0 END END");
        check.unit(x, 4, "FUNC:0 IF NUM:1 IF NUM:2 ELSE END ELSE IF NUM:3 END END END");
        check.unit(x, 0, "FUNC:0 PUT GET AT:1 CALL:2/3 NUM:1 NOT LOCAL:5 NAME:1 END");
        check.unit(x, 0, "FUNC:0 RETURN NUM:1 RETURN NUM:2 DO CALL:3 SET:5 NUM:1 END");
        check.unit(x, 0, "FUNC:0 WHILE NUM:1 IF NUM:1 RETURN NUM:1 ELSE DO NUM:1 END END END");
        check.same("place", x.place(), -1);
        for (String operator : "ADD SUB MUL DIV REM AND OR XOR SHL SHR LESS SAME".split(" ")) {
            check.unit(x, 0, "FUNC:0 RETURN " + operator + " NUM:1 " + operator + " NUM:2 NUM:3 END");
            check.refusedAlone(SYNTAX, 4, "FUNC:0 RETURN " + operator + " NUM:1 END");
            check.refusedAlone(SYNTAX, 5, "FUNC:0 RETURN " + operator + " NUM:1 NUM:2 NUM:3 END");
        }
    }

    private static void wrongTokens(Check check) {
        for (String word : "NUM LOCAL NAME AT GET CALL ADD NOT SET PUT IF ELSE WHILE RETURN DO END".split(" ")) {
            check.refusedAlone(SYNTAX, 0, word);
            check.refusedAlone(SYNTAX, 2, "DATA:1 NUM:1 " + word);
            check.refusedAlone(SYNTAX, 2, "FUNC:1 END " + word);
        }
        for (String word : "NUM LOCAL NAME AT GET CALL ADD NOT ELSE FUNC DATA".split(" ")) {
            check.refusedAlone(SYNTAX, 1, "FUNC:1 " + word + " END");
            check.refusedAlone(SYNTAX, 3, "FUNC:1 WHILE NUM:1 " + word + " END END");
            check.refusedAlone(SYNTAX, 4, "FUNC:1 IF NUM:1 ELSE " + word + " END END");
        }
        for (String word : "SET PUT IF ELSE WHILE RETURN DO END FUNC DATA".split(" ")) {
            for (String before : "SET PUT IF WHILE RETURN DO".split(" ")) {
                check.refusedAlone(SYNTAX, 2, "FUNC:1 " + before + " " + word + " NUM:1 END END");
            }
            for (String before : "GET CALL:0/1 ADD NOT".split(" ")) {
                check.refusedAlone(SYNTAX, 3, "FUNC:1 DO " + before + " " + word + " NUM:1 END");
            }
            check.refusedAlone(SYNTAX, 3, "FUNC:1 PUT NUM:1 " + word + " END");
            check.refusedAlone(SYNTAX, 5, "FUNC:1 DO CALL:0/3 NUM:1 NUM:2 " + word + " END");
        }
        for (int kind = 1; kind <= 29; kind++) {
            if (kind != 19) {
                LinkedUnits x = new LinkedUnits();
                check.draft(x, "DATA:1");
                check.same("token " + kind, x.token(kind, 0), true);
                check.same("unit with DATA and " + kind, x.unit(0), SYNTAX);
                check.same("place of " + kind, x.place(), 1);
            }
        }
        check.refusedAlone(SYNTAX, 3, "FUNC:1 DO CALL:0 NUM:1 END");
        check.refusedAlone(SYNTAX, 4, "FUNC:1 IF NUM:1 ELSE ELSE END END");
        check.refusedAlone(SYNTAX, 6, "FUNC:1 IF NUM:1 ELSE WHILE NUM:1 ELSE END END END");
        check.refusedAlone(SYNTAX, 5, "FUNC:1 IF NUM:1 WHILE NUM:1 ELSE END END END");
        check.refusedAlone(SYNTAX, 2, "FUNC:1 END END END");
    }

    private static void missingTokens(Check check) {
        check.refusedAlone(SYNTAX, 1, "FUNC:1");
        check.refusedAlone(SYNTAX, 1, "DATA:1");
        check.refusedAlone(SYNTAX, 3, "DATA:1 NUM:1 DATA:2");
        check.refusedAlone(SYNTAX, 2, "FUNC:1 SET");
        check.refusedAlone(SYNTAX, 3, "FUNC:1 PUT NUM:1");
        check.refusedAlone(SYNTAX, 4, "FUNC:1 PUT NUM:1 NUM:2");
        check.refusedAlone(SYNTAX, 4, "FUNC:1 IF NUM:1 END");
        check.refusedAlone(SYNTAX, 5, "FUNC:1 IF NUM:1 ELSE END");
        check.refusedAlone(SYNTAX, 4, "FUNC:1 WHILE NUM:1 END");
        check.refusedAlone(SYNTAX, 5, "FUNC:1 DO CALL:0/3 NUM:1 NUM:2");
        check.refusedAlone(SYNTAX, 3, "FUNC:1 END FUNC:2");
    }

    private static void namesTwice(Check check) {
        LinkedUnits x = new LinkedUnits();
        check.refused(x, TWICE, 2, "FUNC:1 END FUNC:1 END");
        check.refused(x, TWICE, 2, "FUNC:1 END FUNC:1/2w END");
        check.refused(x, TWICE, 2, "DATA:11 NUM:11 FUNC:11 END");
        check.refused(x, TWICE, 4, "FUNC:1 END FUNC:0 END DATA:0*8w NUM:0 DATA:1 NUM:1");
        check.refused(x, TWICE, 4, "DATA:0 NUM:1 DATA:1 NUM:1 DATA:1 NUM:1 DATA:0 NUM:1");
        check.unit(x, 0, "FUNC:1 DO CALL:1 DO NAME:1 END DATA:2 NUM:1 DATA:3 NUM:2");
    }

    private static void syntaxBeforeTwice(Check check) {
        LinkedUnits x = new LinkedUnits();
        check.refused(x, SYNTAX, 4, "FUNC:1 END FUNC:1 END END");
        check.refused(x, SYNTAX, 3, "DATA:1 NUM:1 DATA:1");
    }

    private static void badNumbers(Check check) {
        LinkedUnits x = new LinkedUnits();
        for (int u : new int[] {-1, 5, Integer.MIN_VALUE, Integer.MAX_VALUE}) {
            check.same("unit " + u + " of nothing", x.unit(u), LinkedUnits.BAD);
            check.draft(x, "END");
            check.same("unit " + u + " of a wrong draft", x.unit(u), LinkedUnits.BAD);
            check.same("place", x.place(), -1);
            LinkedUnits y = new LinkedUnits();
            check.draft(y, "FUNC:4 END");
            check.same("unit " + u + " of a good draft", y.unit(u), LinkedUnits.BAD);
            check.same("the draft stays", y.unit(4), LinkedUnits.OK);
            check.link(y, "4", LinkedUnits.OK, -1);
            check.same("parameters", y.parameters(4), 0);
        }
        check.same("the wrong draft stayed", x.unit(0), SYNTAX);
        check.same("place", x.place(), 0);
    }

    private static void refusedDraftLeavesTheUnit(Check check) {
        LinkedUnits x = new LinkedUnits();
        check.unit(x, 0, "FUNC:3/2 END");
        check.refused(x, SYNTAX, 0, "END FUNC:4 END");
        check.same("the draft is empty after SYNTAX", x.token(29, 5), true);
        check.draft(x, "NUM:1 DATA:5 NUM:2");
        check.same("TWICE", x.unit(0), TWICE);
        check.draft(x, "FUNC:6 END");
        check.same("the draft is empty after TWICE", x.unit(1), LinkedUnits.OK);
        check.link(x, "0 1", LinkedUnits.OK, -1);
        check.same("parameters(3)", x.parameters(3), 2);
        check.same("parameters(4)", x.parameters(4), -1);
        check.same("at(5)", x.at(5), -1);
        check.same("parameters(6)", x.parameters(6), 0);
        check.same("the draft is empty after OK", x.unit(0), LinkedUnits.OK);
        check.link(x, "0", LinkedUnits.OK, -1);
        check.same("parameters(3) of the empty unit", x.parameters(3), -1);
    }

    private static void placeIsOfTheLatestFault(Check check) {
        LinkedUnits x = new LinkedUnits();
        check.refused(x, SYNTAX, 1, "FUNC:0");
        check.refused(x, TWICE, 2, "FUNC:0 END FUNC:0 END");
        check.unit(x, 0, "FUNC:0 END");
        check.same("place after OK", x.place(), 2);
        check.same("BAD", x.unit(9), LinkedUnits.BAD);
        check.same("place after BAD", x.place(), 2);
        check.refused(x, SYNTAX, 0, "NUM:0");
    }

    private static void linkedStays(Check check) {
        LinkedUnits x = check.linked("FUNC:0/1 IF LOCAL:0 RETURN NAME:1 END RETURN NUM:8 END DATA:1*2 NUM:7");
        check.unit(x, 0, "DATA:0*5 NUM:1 FUNC:1/3 END");
        check.same("size", x.size(), 2);
        check.same("at", x.at(1), 0);
        check.same("parameters", x.parameters(0), 1);
        check.run(x, 1, 0, 0, LinkedUnits.OK, 7, 1);
        check.run(x, 0, 0, 0, LinkedUnits.OK, 8, 1);
        check.unit(x, 0, "");
        check.run(x, 1, 0, 0, LinkedUnits.OK, 7, 1);
    }

    private static void fullDrafts(Check check) {
        LinkedUnits x = new LinkedUnits();
        StringBuilder nested = new StringBuilder("FUNC:0");
        for (int i = 0; i < 16; i++) {
            nested.append(" IF NUM:1");
        }
        nested.append(" END".repeat(17));
        check.unit(x, 0, nested.toString());
        check.refused(x, SYNTAX, 50, "FUNC:0 RETURN" + " NOT".repeat(47) + " NUM:1");
        check.refused(x, SYNTAX, 50, "FUNC:0 RETURN" + " ADD".repeat(48));
        check.refused(x, SYNTAX, 49, "FUNC:0 RETURN" + " NOT".repeat(47) + " END");
        check.unit(x, 0, "FUNC:0 RETURN" + " NOT".repeat(46) + " NUM:1 END");
        check.link(x, "0", LinkedUnits.OK, -1);
        check.run(x, 0, 0, 0, LinkedUnits.OK, 1, 1);
    }
}
