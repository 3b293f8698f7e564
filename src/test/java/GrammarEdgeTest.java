/** The edges of 'Terms' up to what a unit defines: a method for each rule or sentence that names one. */
public final class GrammarEdgeTest {
    private static final int OK = LinkedUnits.OK, SYNTAX = LinkedUnits.SYNTAX, TWICE = LinkedUnits.TWICE;
    private static final int LEAST = Integer.MIN_VALUE, MOST = Integer.MAX_VALUE;
    private static final int NUM = 0, LOCAL = 1, NAME = 2, AT = 3, CALL = 5, SET = 20, END = 27, FUNC = 28, DATA = 29;
    private static final int[] LOOKED_AT = {LOCAL, NAME, AT, CALL, SET, FUNC, DATA};
    private static final int[] NOT_LOOKED_AT = {4, 6, 7, 8, 9, 10, 11, 12, 13, 14, 15, 16, 17, 18, 21, 22, 23, 24, 25, 26, 27};
    // All six locals, the least as the last digit.
    private static final String DIGITS = " RETURN ADD LOCAL:0 MUL NUM:10 ADD LOCAL:1 MUL NUM:10 ADD LOCAL:2"
        + " MUL NUM:10 ADD LOCAL:3 MUL NUM:10 ADD LOCAL:4 MUL NUM:10 LOCAL:5";

    public static void main(String[] args) {
        Check check = new Check();
        names(check);
        fiftyTokens(check);
        fiftyTokensWithoutAnEnd(check);
        fiveFullUnits(check);
        parametersOfFunc(check);
        weakOfFunc(check);
        sizesOfData(check);
        weakOfData(check);
        numberOfData(check);
        emptyUnit(check);
        emptyBlocks(check);
        locals(check);
        oneElse(check);
        anyNumber(check);
        argumentsOfCall(check);
        asManyOperands(check);
        kinds(check);
        wildValues(check);
        valuesNotLookedAt(check);
        noneTwice(check);
        twelveNames(check);
        check.end("GrammarEdgeTest");
    }

    private static void tokenIs(Check check, int kind, int value, boolean due) {
        LinkedUnits x = new LinkedUnits();
        check.same("token(" + kind + ", " + value + ")", x.token(kind, value), due);
        // Neither a FUNC nor a DATA can be a unit alone, and nothing else begins one.
        check.same("unit(0) with it", x.unit(0), due ? SYNTAX : OK);
    }

    private static void names(Check check) {
        check.sentence("NAMES are 0..11");
        int[] kinds = {NAME, AT, CALL, FUNC, DATA};
        int[] counts = {1, 1, 4, 8, 16};
        for (int i = 0; i < kinds.length; i++) {
            for (int high = 0; high < counts[i]; high++) {
                tokenIs(check, kinds[i], 16 * high, true);
                tokenIs(check, kinds[i], 16 * high + 11, true);
                tokenIs(check, kinds[i], 16 * high + 12, false);
                tokenIs(check, kinds[i], 16 * high + 15, false);
            }
            tokenIs(check, kinds[i], -1, false);
        }
        LinkedUnits x = check.linked("DATA:0 NUM:5 FUNC:11/1 RETURN ADD NAME:0 LOCAL:0 END FUNC:1 RETURN CALL:11/1 AT:0 END");
        check.runOf(x, 1, new int[3], OK, 5, 2);
        LinkedUnits y = check.linked("DATA:11 NUM:6 FUNC:0/1 RETURN ADD NAME:11 LOCAL:0 END FUNC:1 RETURN CALL:0/1 AT:11 END");
        check.runOf(y, 1, new int[3], OK, 6, 2);
    }

    private static void fiftyTokens(Check check) {
        check.sentence("A UNIT is a row of at most 50 TOKENS");
        LinkedUnits x = new LinkedUnits();
        check.draft(x, "FUNC:0" + " DO NUM:1".repeat(23) + " RETURN NUM:9");
        check.same("the 50th token", x.token(END, 0), true);
        check.same("the 51st token", x.token(END, 0), false);
        check.same("the 51st token again", x.token(DATA, 1), false);
        check.same("unit(0)", x.unit(0), OK);
        check.same("place()", x.place(), -1);
        check.link(x, "0", OK, -1);
        check.run(x, 0, 0, 0, OK, 9, 1);
        check.same("at(1)", x.at(1), -1);
    }

    private static void fiftyTokensWithoutAnEnd(Check check) {
        check.sentence("A UNIT is a row of at most 50 TOKENS");
        LinkedUnits x = new LinkedUnits();
        check.draft(x, "FUNC:0 RETURN NUM:9" + " DO NUM:1".repeat(23) + " DO");
        check.same("the 51st token", x.token(NUM, 0), false);
        check.same("unit(0)", x.unit(0), SYNTAX);
        check.same("place()", x.place(), 50);
        check.draft(x, "FUNC:0 RETURN NUM:9" + " DO NUM:1".repeat(23));
        check.same("unit(0) of 49 tokens", x.unit(0), SYNTAX);
        check.same("place()", x.place(), 49);
    }

    private static void fiveFullUnits(Check check) {
        check.sentence("A UNIT is a row of at most 50 TOKENS");
        LinkedUnits x = new LinkedUnits();
        for (int u = 0; u < 5; u++) {
            String next = u < 4 ? " CALL:" + (u + 1) : " NUM:10000";
            check.unit(x, u, "FUNC:" + u + " DO NUM:1".repeat(22) + " RETURN ADD NUM:" + (1 << u) + next + " END");
        }
        check.link(x, "4 3 2 1 0", OK, -1);
        check.run(x, 0, 0, 0, OK, 10031, 5);
        check.runOf(x, 4, new int[3], OK, 10016, 1);
    }

    private static void parametersOfFunc(Check check) {
        check.sentence("FUNC (name + 16 * parameters 0..3 + 64 * weak 0, 1)");
        for (int count = 0; count <= 3; count++) {
            for (String weak : new String[] {"", "w"}) {
                LinkedUnits x = check.linked("FUNC:11/" + count + weak + " END FUNC:0/" + count + weak + " END");
                check.same("parameters(11)", x.parameters(11), count);
                check.same("parameters(0)", x.parameters(0), count);
            }
        }
        for (int value : new int[] {LEAST, -128, -64, -16, -1, 124, 127, 128, 139, 144, 192, 256, 1 << 30, MOST}) {
            tokenIs(check, FUNC, value, false);
        }
        tokenIs(check, FUNC, 0, true);
        tokenIs(check, FUNC, 123, true);
    }

    private static void weakOfFunc(Check check) {
        check.sentence("FUNC (name + 16 * parameters 0..3 + 64 * weak 0, 1)");
        // 59 is the last value that is not weak, 64 the first that is.
        for (int value : new int[] {0, 59, 64, 123}) {
            LinkedUnits x = new LinkedUnits();
            check.same("token", x.token(FUNC, value), true);
            check.draft(x, "END");
            check.same("unit(0)", x.unit(0), OK);
            check.unit(x, 1, "FUNC:0 END FUNC:11/3 END");
            check.link(x, "0 1", value < 64 ? LinkedUnits.DUPLICATE : OK, value < 64 ? value % 16 : -1);
        }
    }

    private static void sizesOfData(Check check) {
        check.sentence("DATA (name + 16 * (size 1..8 - 1) + 128 * weak) NUM");
        for (int size = 1; size <= 8; size++) {
            for (String weak : new String[] {"", "w"}) {
                LinkedUnits x = check.linked("DATA:0*" + size + weak + " NUM:3 DATA:11*" + size + weak + " NUM:4");
                check.same("size()", x.size(), 2 * size);
                check.same("at(0)", x.at(0), 0);
                check.same("at(11)", x.at(11), size);
                check.same("the last word of 0", x.peek(size - 1), 3);
                check.same("the last word of 11", x.peek(2 * size - 1), 4);
            }
        }
        for (int value : new int[] {LEAST, -256, -128, -16, -1, 252, 255, 256, 267, 384, 1 << 30, MOST}) {
            tokenIs(check, DATA, value, false);
        }
        tokenIs(check, DATA, 0, true);
        tokenIs(check, DATA, 251, true);
    }

    private static void weakOfData(Check check) {
        check.sentence("DATA (name + 16 * (size 1..8 - 1) + 128 * weak) NUM");
        // 123 is the last value that is not weak, 128 the first that is.
        for (int value : new int[] {0, 64, 123, 128, 192, 251}) {
            LinkedUnits x = new LinkedUnits();
            check.same("token", x.token(DATA, value), true);
            check.draft(x, "NUM:1");
            check.same("unit(0)", x.unit(0), OK);
            check.unit(x, 1, "DATA:0 NUM:1 DATA:11 NUM:1");
            check.link(x, "0 1", value < 128 ? LinkedUnits.DUPLICATE : OK, value < 128 ? value % 16 : -1);
        }
    }

    private static void numberOfData(Check check) {
        check.sentence("DATA .. NUM");
        check.refusedAlone(SYNTAX, 1, "DATA:0");
        check.refusedAlone(SYNTAX, 2, "DATA:0*2 NUM:1 NUM:2");
        check.refusedAlone(SYNTAX, 1, "DATA:0 DATA:1 NUM:1");
        check.refusedAlone(SYNTAX, 1, "DATA:0 ADD NUM:1 NUM:1");
        check.refusedAlone(SYNTAX, 1, "DATA:0 LOCAL:0");
        check.unit(new LinkedUnits(), 0, "DATA:0 NUM:1 DATA:1 NUM:1");
    }

    private static void emptyUnit(Check check) {
        check.sentence("UNIT := { FUNC .. | DATA .. }");
        LinkedUnits x = check.linked("FUNC:0 END DATA:1 NUM:1");
        check.unit(x, 0, "");
        check.same("place()", x.place(), -1);
        check.link(x, "0", OK, -1);
        check.same("parameters(0)", x.parameters(0), -1);
        check.same("size()", x.size(), 0);
    }

    private static void emptyBlocks(Check check) {
        check.sentence("{ STATEMENT }");
        check.run(check.linked("FUNC:0 END"), 0, 0, 0, OK, 0, 1);
        check.run(check.linked("FUNC:0/1 IF LOCAL:0 END RETURN NUM:2 END"), 1, 0, 0, OK, 2, 1);
        check.run(check.linked("FUNC:0/1 IF LOCAL:0 END RETURN NUM:2 END"), 0, 0, 0, OK, 2, 1);
        check.run(check.linked("FUNC:0/1 IF LOCAL:0 ELSE END RETURN NUM:2 END"), 1, 0, 0, OK, 2, 1);
        check.run(check.linked("FUNC:0/1 IF LOCAL:0 ELSE END RETURN NUM:2 END"), 0, 0, 0, OK, 2, 1);
        check.run(check.linked("FUNC:0/1 WHILE LOCAL:0 END RETURN NUM:2 END"), 0, 0, 0, OK, 2, 2);
        check.run(check.linked("FUNC:0/1 WHILE LOCAL:0 END RETURN NUM:2 END"), 1, 0, 0, LinkedUnits.LONG, 0, 200);
    }

    private static void locals(Check check) {
        check.sentence("SET (local 0..5), LOCAL (0..5)");
        for (int kind : new int[] {LOCAL, SET}) {
            tokenIs(check, kind, -1, false);
            tokenIs(check, kind, 0, true);
            tokenIs(check, kind, 5, true);
            tokenIs(check, kind, 6, false);
        }
        int due = 7;
        for (int local = 0; local <= 5; local++) {
            check.run(check.linked("FUNC:0 SET:" + local + " NUM:7" + DIGITS + " END"), 0, 0, 0, OK, due, 1);
            due *= 10;
        }
    }

    private static void oneElse(Check check) {
        check.sentence("IF E { STATEMENT } [ ELSE { STATEMENT } ] END");
        check.unit(new LinkedUnits(), 0, "FUNC:0 IF NUM:1 DO NUM:1 ELSE DO NUM:1 END END");
        check.refusedAlone(SYNTAX, 7, "FUNC:0 IF NUM:1 DO NUM:1 ELSE END ELSE END");
        check.refusedAlone(SYNTAX, 4, "FUNC:0 IF NUM:1 ELSE ELSE END END");
        check.refusedAlone(SYNTAX, 6, "FUNC:0 IF NUM:1 ELSE DO NUM:1 ELSE END END");
        check.refusedAlone(SYNTAX, 2, "FUNC:0 IF ELSE END END");
        check.refusedAlone(SYNTAX, 3, "FUNC:0 WHILE NUM:1 ELSE END END");
        check.refusedAlone(SYNTAX, 1, "FUNC:0 ELSE END");
        check.refusedAlone(SYNTAX, 0, "ELSE");
    }

    private static void anyNumber(Check check) {
        check.sentence("NUM (any int)");
        for (int value : new int[] {LEAST, LEAST + 1, -65536, -1, 0, 1, 255, 256, 65536, MOST - 1, MOST}) {
            LinkedUnits x = check.linked("DATA:1 NUM:" + value + " FUNC:0 RETURN NUM:" + value + " END");
            check.run(x, 0, 0, 0, OK, value, 1);
            check.same("peek(0)", x.peek(0), value);
        }
    }

    private static void argumentsOfCall(Check check) {
        check.sentence("CALL (name + 16 * arguments 0..3) then as many E");
        for (int count = 0; count <= 3; count++) {
            String call = "FUNC:0 RETURN CALL:11/" + count;
            String other = " END FUNC:11/" + count + " RETURN ADD LOCAL:0 ADD LOCAL:1 LOCAL:2 END";
            check.run(check.linked(call + " NUM:5".repeat(count) + other), 0, 0, 0, OK, 5 * count, 2);
            check.refusedAlone(SYNTAX, 3 + count, call + " NUM:5".repeat(count + 1) + other);
            if (count > 0) {
                check.refusedAlone(SYNTAX, 2 + count, call + " NUM:5".repeat(count - 1) + other);
            }
        }
        for (int value : new int[] {LEAST, -64, -16, -1, 60, 63, 64, 75, 80, 128, 256, 1 << 30, MOST}) {
            tokenIs(check, CALL, value, false);
        }
        tokenIs(check, CALL, 0, true);
        tokenIs(check, CALL, 59, true);
    }

    private static void asManyOperands(Check check) {
        check.sentence("SET E | PUT E E | RETURN E | DO E | GET E | ADD .. SAME E E | NOT E");
        for (String word : "SET RETURN DO DO_GET DO_NOT".split(" ")) {
            operands(check, word.replace("_", " "), 1);
        }
        for (String word : "PUT DO_ADD DO_SUB DO_MUL DO_DIV DO_REM DO_AND DO_OR DO_XOR DO_SHL DO_SHR DO_LESS DO_SAME".split(" ")) {
            operands(check, word.replace("_", " "), 2);
        }
        check.sentence("IF E .. END, WHILE E .. END");
        for (String word : new String[] {"IF", "WHILE"}) {
            check.unit(new LinkedUnits(), 0, "FUNC:0 " + word + " NUM:1 END END");
            check.refusedAlone(SYNTAX, 2, "FUNC:0 " + word + " END END");
            check.refusedAlone(SYNTAX, 3, "FUNC:0 " + word + " NUM:1 NUM:2 END END");
            check.refusedAlone(SYNTAX, 4, "FUNC:0 " + word + " NUM:1 END");
            check.refusedAlone(SYNTAX, 5, "FUNC:0 " + word + " NUM:1 END END END");
        }
    }

    private static void operands(Check check, String words, int count) {
        String before = "FUNC:0 " + words;
        int first = before.split(" ").length;
        check.unit(new LinkedUnits(), 0, before + " NUM:1".repeat(count) + " END");
        check.refusedAlone(SYNTAX, first + count, before + " NUM:1".repeat(count + 1) + " END");
        check.refusedAlone(SYNTAX, first + count - 1, before + " NUM:1".repeat(count - 1) + " END");
        check.refusedAlone(SYNTAX, first + count - 1, before + " NUM:1".repeat(count - 1));
    }

    private static void kinds(Check check) {
        check.sentence("kinds: 0 NUM .. 18 NOT, 20 SET .. 29 DATA");
        for (int kind : new int[] {LEAST, -256, -1, 19, 30, 31, 32, 51, 256, 65536, MOST}) {
            for (int value : new int[] {LEAST, -1, 0, 1, MOST}) {
                tokenIs(check, kind, value, false);
            }
        }
        for (int kind = 0; kind <= 29; kind++) {
            tokenIs(check, kind, 0, kind != 19);
        }
    }

    private static void wildValues(Check check) {
        check.sentence("False if .. a value that is looked at is not as said");
        for (int kind : LOOKED_AT) {
            for (int value : new int[] {LEAST, LEAST + 1, -65536, -257, -12, 256, 512, 65536, 1 << 20, MOST - 15, MOST}) {
                tokenIs(check, kind, value, false);
            }
        }
    }

    private static void valuesNotLookedAt(Check check) {
        check.sentence("False if .. a value that is looked at is not as said");
        for (int kind : NOT_LOOKED_AT) {
            for (int value : new int[] {LEAST, -1, 12, 19, 256, MOST}) {
                tokenIs(check, kind, value, true);
            }
        }
        int[] kinds = {FUNC, 24, LOCAL, 22, 4, LOCAL, 21, NUM, NUM, 23, 25, 18, LOCAL, END, 26, NUM, SET, 7, LOCAL, NUM, END, 25, 6, LOCAL, NAME, END, DATA, NUM};
        int[] values = {16, 0, 0, 0, 0, 1, 0, 0, 7, 0, 0, 0, 0, 0, 0, 2, 0, 0, 0, 1, 0, 0, 0, 0, 5, 0, 5, 30};
        for (int wild : new int[] {0, LEAST, -1, 48, MOST}) {
            LinkedUnits x = new LinkedUnits();
            for (int i = 0; i < kinds.length; i++) {
                boolean isWild = java.util.Arrays.binarySearch(NOT_LOOKED_AT, kinds[i]) >= 0;
                check.same("token", x.token(kinds[i], isWild ? wild : values[i]), true);
            }
            check.same("unit(0) with " + wild, x.unit(0), OK);
            check.link(x, "0", OK, -1);
            check.run(x, 3, 0, 0, OK, 7, 5);
        }
    }

    private static void noneTwice(Check check) {
        check.sentence("A unit DEFINES the names of its FUNCs and DATAs (none twice)");
        for (String first : new String[] {"FUNC:3 END", "FUNC:3/2w END", "DATA:3 NUM:1", "DATA:3*8w NUM:1"}) {
            for (String second : new String[] {"FUNC:3 END", "FUNC:3/3w END", "DATA:3*2 NUM:2", "DATA:3w NUM:1"}) {
                check.refusedAlone(TWICE, 2, first + " " + second);
                check.refusedAlone(TWICE, 4, first + " DATA:2 NUM:1 " + second + " DATA:4 NUM:1");
            }
        }
        check.unit(new LinkedUnits(), 0, "FUNC:3 DO CALL:3 DO CALL:3 DO NAME:3 DO AT:3 END DATA:2 NUM:3");
        LinkedUnits x = check.units("FUNC:3 END", "FUNC:3 END", "DATA:3 NUM:1");
        check.same("the same name in other units", x.place(), -1);
        check.unit(x, 0, "FUNC:3 END");
    }

    private static void twelveNames(Check check) {
        check.sentence("A unit DEFINES the names of its FUNCs and DATAs (none twice)");
        StringBuilder all = new StringBuilder();
        for (int name = 0; name < 12; name++) {
            all.append(name % 2 == 0 ? " DATA:" + name + "*2 NUM:" + name : " FUNC:" + name + "/" + name % 4 + " END");
        }
        LinkedUnits x = check.linked(all.toString());
        for (int name = 0; name < 12; name++) {
            check.same("at(" + name + ")", x.at(name), name % 2 == 0 ? name : -1);
            check.same("parameters(" + name + ")", x.parameters(name), name % 2 == 0 ? -1 : name % 4);
        }
        check.refused(x, TWICE, 24, all + " DATA:11 NUM:1");
        check.refused(x, TWICE, 24, all + " FUNC:0 END");
    }
}
