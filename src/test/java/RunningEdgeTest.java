/** The edges of 'Terms' where it tells of running and faults: a method for each sentence that names one. */
public final class RunningEdgeTest {
    private static final int OK = LinkedUnits.OK, ADDRESS = LinkedUnits.ADDRESS, LONG = LinkedUnits.LONG, DEPTH = LinkedUnits.DEPTH;
    private static final int LEAST = Integer.MIN_VALUE, MOST = Integer.MAX_VALUE;
    private static final int[] WILD = {LEAST, LEAST + 1, -65536, -256, -2, -1, 1, 2, 255, 256, 65535, 65536, MOST - 1, MOST};
    // Takes local 0 down to 0: one step more than it was.
    private static final String SPEND = " WHILE LOCAL:0 SET:0 SUB LOCAL:0 NUM:1 END";
    // Function 8 gives back its argument, having written it into word 0.
    private static final String NOTE = " DATA:7*3 NUM:77 FUNC:8/1 PUT AT:7 LOCAL:0 RETURN LOCAL:0 END";

    public static void main(String[] args) {
        Check check = new Check();
        locals(check);
        localsOfEachCall(check);
        truth(check);
        endings(check);
        endingsOfBlocks(check);
        onlyWorkedOut(check);
        fromTheFirstToTheLast(check);
        firstWordAndPlace(check);
        wrapping(check);
        division(check);
        remainder(check);
        shifts(check);
        comparisons(check);
        addressesOfGet(check);
        addressesOfPut(check);
        addressesWithoutMemory(check);
        putWhenBothAreWorkedOut(check);
        memoryInUseNow(check);
        stepsOfWhile(check);
        stepsOfFunctions(check);
        stepBeforeTheCondition(check);
        stepAfterTheArguments(check);
        tenAtWork(check);
        atWorkNotBegun(check);
        depthAfterTheArguments(check);
        depthHasTakenItsStep(check);
        whatWasPutStays(check);
        endAtOnce(check);
        newRunAfterAFault(check);
        check.end("RunningEdgeTest");
    }

    private static void locals(Check check) {
        check.sentence("locals 0, 1, .. are its arguments, the others 0");
        for (int count = 0; count <= 3; count++) {
            for (int local = 0; local <= 5; local++) {
                LinkedUnits x = check.linked("FUNC:0/" + count + " RETURN LOCAL:" + local + " END");
                int[] due = {LEAST, MOST, -1, 0, 0, 0};
                check.run(x, LEAST, MOST, -1, OK, local < count ? due[local] : 0, 1);
            }
        }
    }

    private static void localsOfEachCall(Check check) {
        check.sentence("locals 0, 1, .. are its arguments, the others 0");
        String fill = " SET:0 NUM:1 SET:1 NUM:2 SET:2 NUM:3 SET:3 NUM:4 SET:4 NUM:5 SET:5 NUM:6";
        String any = "OR LOCAL:0 OR LOCAL:1 OR LOCAL:2 OR LOCAL:3 OR LOCAL:4 LOCAL:5";
        LinkedUnits x = check.linked("FUNC:0" + fill + " DO CALL:1 RETURN CALL:1 END FUNC:1 IF " + any + " RETURN NUM:99 END SET:5 NUM:8 SET:0 NUM:8 END");
        check.run(x, 7, 7, 7, OK, 0, 3);
        check.run(x, 7, 7, 7, OK, 0, 3);
        LinkedUnits y = check.linked("FUNC:0" + fill + " DO CALL:1 RETURN ADD LOCAL:0 MUL NUM:10 ADD LOCAL:1 MUL NUM:10 LOCAL:5 END FUNC:1 SET:0 NUM:9 SET:1 NUM:9 SET:5 NUM:9 END");
        check.run(y, 0, 0, 0, OK, 621, 2);
    }

    private static void truth(Check check) {
        check.sentence("IF, WHILE: E is true if it is not 0");
        LinkedUnits x = check.linked("FUNC:0/1 IF LOCAL:0 RETURN NUM:5 END RETURN NUM:6 END");
        LinkedUnits y = check.linked("FUNC:0/1 IF LOCAL:0 RETURN NUM:5 ELSE RETURN NUM:6 END END");
        LinkedUnits z = check.linked("FUNC:0/1 WHILE LOCAL:0 RETURN NUM:5 END RETURN NUM:6 END");
        for (int value : WILD) {
            check.run(x, value, 0, 0, OK, 5, 1);
            check.run(y, value, 0, 0, OK, 5, 1);
            check.run(z, value, 0, 0, OK, 5, 2);
        }
        check.run(x, 0, 1, 1, OK, 6, 1);
        check.run(y, 0, 1, 1, OK, 6, 1);
        check.run(z, 0, 1, 1, OK, 6, 2);
    }

    private static void endings(Check check) {
        check.sentence("RETURN ends the function with E; at its END it ends with 0");
        check.run(check.linked("FUNC:0/3 END"), 4, 5, 6, OK, 0, 1);
        check.run(check.linked("FUNC:0/3 SET:0 NUM:3 DO LOCAL:1 END"), 4, 5, 6, OK, 0, 1);
        check.run(check.linked("FUNC:0 RETURN NUM:3 RETURN GET NUM:-1 END"), 0, 0, 0, OK, 3, 1);
        check.run(check.linked("FUNC:0 IF NUM:1 WHILE NUM:1 RETURN NUM:3 END END RETURN NUM:4 END"), 0, 0, 0, OK, 3, 2);
        LinkedUnits x = check.linked("FUNC:0 RETURN ADD CALL:1 CALL:2 END FUNC:1 WHILE NUM:1 IF NUM:1 RETURN NUM:30 END END END FUNC:2 DO NUM:9 END");
        check.run(x, 0, 0, 0, OK, 30, 4);
        check.runOf(x, 2, new int[3], OK, 0, 1);
        LinkedUnits y = check.linked("FUNC:0 RETURN SUB NUM:100 MUL NUM:7 SUB CALL:1 NUM:2 END FUNC:1 END");
        check.run(y, 0, 0, 0, OK, 114, 2);
    }

    private static void endingsOfBlocks(Check check) {
        check.sentence("IF, WHILE: E is true if it is not 0");
        String blocks = " FUNC:1/1 IF LOCAL:0 SET:1 NUM:1 ELSE SET:1 NUM:2 END IF LOCAL:0 SET:2 NUM:10 END"
            + " WHILE LOCAL:0 SET:0 NUM:0 END RETURN ADD LOCAL:1 LOCAL:2 END";
        LinkedUnits x = check.linked("FUNC:0/1 RETURN SUB NUM:100 SUB CALL:1/1 LOCAL:0 NUM:50 END" + blocks);
        check.run(x, 0, 0, 0, OK, 148, 3);
        check.run(x, 1, 0, 0, OK, 139, 4);
    }

    private static void onlyWorkedOut(Check check) {
        check.sentence("DO: only works E out");
        LinkedUnits x = check.linked("FUNC:0/1 DO CALL:8/1 NUM:4 DO NUM:5 RETURN LOCAL:0 END" + NOTE);
        check.run(x, 3, 0, 0, OK, 3, 2);
        check.same("peek(0)", x.peek(0), 4);
        check.run(check.linked("FUNC:0 DO GET NUM:0 RETURN NUM:1 END"), 0, 0, 0, ADDRESS, 0, 1);
    }

    private static void fromTheFirstToTheLast(Check check) {
        check.sentence("Operands are worked out from the first to the last");
        for (String operator : "ADD SUB MUL DIV REM AND OR XOR SHL SHR LESS SAME".split(" ")) {
            LinkedUnits x = check.linked("FUNC:0 DO " + operator + " CALL:8/1 NUM:0 CALL:8/1 NUM:1 END" + NOTE);
            check.run(x, 0, 0, 0, OK, 0, 3);
            check.same("the last one of " + operator, x.peek(0), 1);
            LinkedUnits y = check.linked("FUNC:0 DO " + operator + " GET NUM:3 CALL:8/1 NUM:1 END" + NOTE);
            check.run(y, 0, 0, 0, ADDRESS, 0, 1);
            check.same("not begun after the first one of " + operator, y.peek(0), 77);
        }
        LinkedUnits z = check.linked("FUNC:0 RETURN CALL:1/3 NAME:7 CALL:8/1 NUM:6 NAME:7 END FUNC:1/3 RETURN SUB LOCAL:0 MUL NUM:100 ADD LOCAL:1 LOCAL:2 END" + NOTE);
        check.run(z, 0, 0, 0, OK, 77 - 1200, 3);
        LinkedUnits w = check.linked("FUNC:0 PUT SUB NAME:7 NUM:76 CALL:8/1 NUM:6 END" + NOTE);
        check.run(w, 0, 0, 0, OK, 0, 2);
        check.same("peek(1)", w.peek(1), 6);
    }

    private static void firstWordAndPlace(Check check) {
        check.sentence("NAME: the first word of that DATA, AT: its place; GET: the word at E");
        LinkedUnits x = check.linked("DATA:0*8 NUM:5 DATA:11*8 NUM:6 FUNC:1/1 RETURN GET LOCAL:0 END FUNC:2 RETURN NAME:0 END FUNC:3 RETURN NAME:11 END FUNC:4 RETURN AT:0 END FUNC:5 RETURN AT:11 END");
        check.same("poke(7)", x.poke(7, 70), true);
        check.same("poke(8)", x.poke(8, 80), true);
        check.same("poke(9)", x.poke(9, 90), true);
        int[] due = {5, 80, 0, 8};
        for (int i = 0; i < 4; i++) {
            check.runOf(x, 2 + i, new int[3], OK, due[i], 1);
        }
        int[] words = {5, 5, 5, 5, 5, 5, 5, 70, 80, 90, 6, 6, 6, 6, 6, 6};
        for (int place = 0; place < 16; place++) {
            check.runOf(x, 1, new int[] {place, 0, 0}, OK, words[place], 1);
        }
    }

    private static void binary(Check check, String operator, int... rows) {
        LinkedUnits x = check.linked("FUNC:0/2 RETURN " + operator + " LOCAL:0 LOCAL:1 END");
        for (int i = 0; i < rows.length; i += 3) {
            check.run(x, rows[i], rows[i + 1], 0, OK, rows[i + 2], 1);
        }
    }

    private static void wrapping(Check check) {
        check.sentence("Arithmetic wraps");
        binary(check, "ADD", MOST, 0, MOST, MOST, 1, LEAST, MOST, MOST, -2, LEAST, -1, MOST, LEAST, LEAST, 0, LEAST, MOST, -1);
        binary(check, "SUB", LEAST, 0, LEAST, LEAST, 1, MOST, MOST, -1, LEAST, 0, LEAST, LEAST, -1, LEAST, MOST, LEAST, MOST, 1);
        binary(check, "MUL", 46340, 46340, 2147395600, 46341, 46341, -2147479015, 65536, 32768, LEAST, 65536, 65536, 0, MOST, MOST, 1, LEAST, -1, LEAST, LEAST, LEAST, 0, LEAST, 3, LEAST);
    }

    private static void division(Check check) {
        check.sentence("DIV rounds towards 0, by 0 it is -1; -2147483648 by -1: itself");
        binary(check, "DIV", 7, 2, 3, 7, -2, -3, -7, 2, -3, -7, -2, 3, 1, 2, 0, -1, 2, 0, 1, -2, 0, 6, 3, 2, -6, 3, -2);
        binary(check, "DIV", 0, 0, -1, 1, 0, -1, -1, 0, -1, MOST, 0, -1, LEAST, 0, -1);
        binary(check, "DIV", LEAST, -1, LEAST, LEAST + 1, -1, MOST, MOST, -1, LEAST + 1, LEAST, 1, LEAST, LEAST, -2, 1 << 30, LEAST, LEAST, 1, MOST, LEAST, 0, LEAST, MOST, -1);
    }

    private static void remainder(Check check) {
        check.sentence("REM by 0 the first operand; -2147483648 by -1: .. 0");
        binary(check, "REM", 7, 2, 1, 7, -2, 1, -7, 2, -1, -7, -2, -1, 1, 2, 1, -1, 2, -1, 6, 3, 0, -6, 3, 0);
        binary(check, "REM", 0, 0, 0, 1, 0, 1, -1, 0, -1, MOST, 0, MOST, LEAST, 0, LEAST);
        binary(check, "REM", LEAST, -1, 0, LEAST + 1, -1, 0, MOST, -1, 0, LEAST, 1, 0, LEAST, MOST, -1, MOST, LEAST, MOST, LEAST, LEAST, 0);
    }

    private static void shifts(Check check) {
        check.sentence("SHL, SHR (with sign) by the lowest five bits");
        binary(check, "SHL", 3, 0, 3, 3, 1, 6, 3, 30, -(1 << 30), 3, 31, LEAST, 3, 32, 3, 3, 33, 6, 3, 63, LEAST, 3, 64, 3, 3, -1, LEAST, 3, -31, 6, 3, -32, 3, 3, LEAST, 3, 3, MOST, LEAST);
        binary(check, "SHR", -9, 0, -9, -9, 1, -5, -9, 31, -1, -9, 32, -9, -9, 33, -5, -9, 63, -1, -9, 64, -9, -9, -1, -1, -9, -31, -5, -9, -32, -9, -9, LEAST, -9, -9, MOST, -1);
        binary(check, "SHR", MOST, 30, 1, MOST, 31, 0, MOST, 32, MOST, LEAST, 31, -1, LEAST, 30, -2, LEAST, 32, LEAST);
    }

    private static void comparisons(Check check) {
        check.sentence("LESS, SAME, NOT (E is 0): 1 or 0");
        binary(check, "LESS", 0, 0, 0, 0, 1, 1, 1, 0, 0, -1, 0, 1, 0, -1, 0, LEAST, MOST, 1, MOST, LEAST, 0, LEAST, LEAST, 0, LEAST, LEAST + 1, 1, MOST - 1, MOST, 1, MOST, MOST, 0);
        binary(check, "SAME", 0, 0, 1, 0, 1, 0, -1, 1, 0, LEAST, LEAST, 1, MOST, MOST, 1, LEAST, MOST, 0, 256, 0, 0, 65536, 0, 0, LEAST, 0, 0);
        LinkedUnits x = check.linked("FUNC:0/1 RETURN NOT LOCAL:0 END");
        check.run(x, 0, 1, 1, OK, 1, 1);
        for (int value : WILD) {
            check.run(x, value, 0, 0, OK, 0, 1);
        }
    }

    /** Data of this many words, at most 48, each of them 40, under the names 3 to 8. */
    private static String data(int words) {
        StringBuilder text = new StringBuilder();
        int left = words;
        for (int name = 3; left > 0; name++) {
            int size = left > 8 ? 8 : left;
            text.append(" DATA:").append(name).append("*").append(size).append(" NUM:40");
            left -= size;
        }
        return text.toString();
    }

    private static void addressesOfGet(Check check) {
        check.sentence("ADDRESS for .. GET at a place that is not in the memory in use");
        for (int words : new int[] {1, 2, 8, 9, 47, 48}) {
            LinkedUnits x = check.linked("FUNC:0/1 RETURN GET LOCAL:0 END" + data(words));
            check.run(x, 0, 0, 0, OK, 40, 1);
            check.run(x, words - 1, 0, 0, OK, 40, 1);
            for (int place : new int[] {-1, words, words + 1, 49, 64, 256, LEAST, MOST}) {
                check.run(x, place, 0, 0, ADDRESS, 0, 1);
            }
        }
    }

    private static void addressesOfPut(Check check) {
        check.sentence("ADDRESS for PUT .. at a place that is not in the memory in use");
        for (int words : new int[] {1, 2, 8, 9, 47, 48}) {
            LinkedUnits x = check.linked("FUNC:0/2 PUT LOCAL:0 LOCAL:1 RETURN NUM:6 END" + data(words));
            String before = Check.seen(x);
            for (int place : new int[] {-1, words, words + 1, 49, 64, 256, LEAST, MOST}) {
                check.same("run at " + place, x.run(0, place, 5, 0), ADDRESS);
            }
            check.same("the words", Check.seen(x).equals(before.replace("steps 0", "steps 1")), true);
            check.run(x, 0, 5, 0, OK, 6, 1);
            check.same("peek(0)", x.peek(0), 5);
            check.run(x, words - 1, 4, 0, OK, 6, 1);
            check.same("peek(" + (words - 1) + ")", x.peek(words - 1), 4);
        }
    }

    private static void addressesWithoutMemory(Check check) {
        check.sentence("a place that is not in the memory in use");
        LinkedUnits x = check.linked("FUNC:0/1 RETURN GET LOCAL:0 END FUNC:1/1 PUT LOCAL:0 NUM:1 END");
        for (int place : new int[] {-1, 0, 1, 47, 48}) {
            check.runOf(x, 0, new int[] {place, 0, 0}, ADDRESS, 0, 1);
            check.runOf(x, 1, new int[] {place, 0, 0}, ADDRESS, 0, 1);
        }
    }

    private static void putWhenBothAreWorkedOut(Check check) {
        check.sentence("ADDRESS for PUT (when both are worked out)");
        LinkedUnits x = check.linked("FUNC:0/1 PUT LOCAL:0 CALL:8/1 NUM:6 END" + NOTE);
        check.run(x, -1, 0, 0, ADDRESS, 0, 2);
        check.same("the second E was worked out", x.peek(0), 6);
        check.run(x, 3, 0, 0, ADDRESS, 0, 2);
        LinkedUnits y = check.linked("FUNC:0 PUT NUM:-1 CALL:0 END");
        check.run(y, 0, 0, 0, DEPTH, 0, 11);
        LinkedUnits z = check.linked("FUNC:0 PUT NUM:-1 CALL:1 END FUNC:1 WHILE NUM:1 END END");
        check.run(z, 0, 0, 0, LONG, 0, 200);
    }

    private static void memoryInUseNow(Check check) {
        check.sentence("a place that is not in the memory in use");
        LinkedUnits x = check.units("FUNC:0/1 RETURN GET LOCAL:0 END", data(48), data(5));
        check.link(x, "0 1", OK, -1);
        check.run(x, 47, 0, 0, OK, 40, 1);
        check.link(x, "0 2", OK, -1);
        check.run(x, 4, 0, 0, OK, 40, 1);
        check.run(x, 5, 0, 0, ADDRESS, 0, 1);
        check.run(x, 47, 0, 0, ADDRESS, 0, 1);
        check.link(x, "0", OK, -1);
        check.run(x, 0, 0, 0, ADDRESS, 0, 1);
        check.link(x, "0 1", OK, -1);
        check.run(x, 47, 0, 0, OK, 40, 1);
    }

    private static void stepsOfWhile(Check check) {
        check.sentence("each time that the E of a WHILE is begun take one of 200 STEPS");
        LinkedUnits x = check.linked("FUNC:0/1" + SPEND + " RETURN NUM:6 END");
        check.run(x, 0, 0, 0, OK, 6, 2);
        check.run(x, 197, 0, 0, OK, 6, 199);
        check.run(x, 198, 0, 0, OK, 6, 200);
        check.run(x, 199, 0, 0, LONG, 0, 200);
        check.run(x, 200, 0, 0, LONG, 0, 200);
        check.run(x, -1, 0, 0, LONG, 0, 200);
        check.run(x, 198, 0, 0, OK, 6, 200);
    }

    private static void stepsOfFunctions(Check check) {
        check.sentence("each function that begins .. take one of 200 STEPS");
        LinkedUnits x = check.linked("FUNC:0/1" + SPEND + " DO CALL:8/1 NUM:5 RETURN CALL:8/1 NUM:6 END" + NOTE);
        check.run(x, 0, 0, 0, OK, 6, 4);
        check.run(x, 196, 0, 0, OK, 6, 200);
        check.same("poke(0)", x.poke(0, 1), true);
        check.run(x, 197, 0, 0, LONG, 0, 200);
        check.same("the first one only", x.peek(0), 5);
        check.same("poke(0)", x.poke(0, 1), true);
        check.run(x, 198, 0, 0, LONG, 0, 200);
        check.same("none of them", x.peek(0), 1);
    }

    private static void stepBeforeTheCondition(Check check) {
        check.sentence("each time that the E of a WHILE is begun take one of 200 STEPS, and none is left");
        LinkedUnits x = check.linked("FUNC:0/1" + SPEND + " WHILE GET NUM:-1 END END");
        check.run(x, 197, 0, 0, ADDRESS, 0, 200);
        check.run(x, 198, 0, 0, LONG, 0, 200);
        LinkedUnits y = check.linked("FUNC:0/1" + SPEND + " IF GET NUM:-1 END END");
        check.run(y, 198, 0, 0, ADDRESS, 0, 200);
    }

    private static void stepAfterTheArguments(Check check) {
        check.sentence("each function that begins .. take one of 200 STEPS, and none is left");
        LinkedUnits x = check.linked("FUNC:0/1" + SPEND + " DO CALL:8/1 GET NUM:-1 END" + NOTE);
        check.run(x, 198, 0, 0, ADDRESS, 0, 200);
        LinkedUnits y = check.linked("FUNC:0/1" + SPEND + " DO CALL:1/1 CALL:8/1 NUM:5 END FUNC:1/1 END" + NOTE);
        check.run(y, 196, 0, 0, OK, 0, 200);
        check.same("poke(0)", y.poke(0, 1), true);
        check.run(y, 197, 0, 0, LONG, 0, 200);
        check.same("the argument had been worked out", y.peek(0), 5);
    }

    private static void tenAtWork(Check check) {
        check.sentence("DEPTH: a function would begin while 10 are at work");
        String down = " IF LOCAL:0 RETURN ADD NUM:1 CALL:1/1 SUB LOCAL:0 NUM:1 END RETURN NUM:50 END";
        LinkedUnits x = check.linked("FUNC:1/1" + down);
        check.runOf(x, 1, new int[] {8, 0, 0}, OK, 58, 9);
        check.runOf(x, 1, new int[] {9, 0, 0}, OK, 59, 10);
        check.runOf(x, 1, new int[] {10, 0, 0}, DEPTH, 0, 11);
        check.runOf(x, 1, new int[] {11, 0, 0}, DEPTH, 0, 11);
        LinkedUnits y = check.linked("FUNC:0/1 RETURN CALL:1/1 LOCAL:0 END FUNC:1/1" + down.replace("CALL:1/1", "CALL:0/1"));
        check.run(y, 4, 0, 0, OK, 54, 10);
        check.run(y, 5, 0, 0, DEPTH, 0, 11);
        check.runOf(y, 1, new int[] {4, 0, 0}, OK, 54, 9);
        check.runOf(y, 1, new int[] {5, 0, 0}, DEPTH, 0, 11);
    }

    private static void atWorkNotBegun(Check check) {
        check.sentence("while 10 are at work");
        String down = " END FUNC:1/1 IF LOCAL:0 RETURN ADD NUM:1 CALL:1/1 SUB LOCAL:0 NUM:1 END END";
        LinkedUnits x = check.linked("FUNC:0 DO CALL:1/1 NUM:8 DO CALL:1/1 NUM:8 RETURN CALL:1/1 CALL:1/1 NUM:8" + down);
        check.run(x, 0, 0, 0, OK, 8, 1 + 4 * 9);
        LinkedUnits y = check.linked("FUNC:0 DO CALL:1/1 NUM:8 RETURN CALL:1/1 NUM:9" + down);
        check.run(y, 0, 0, 0, DEPTH, 0, 1 + 9 + 10);
        LinkedUnits z = check.linked("FUNC:0 WHILE LESS LOCAL:0 NUM:15 SET:0 ADD LOCAL:0 CALL:2 END RETURN LOCAL:0 END FUNC:2 RETURN NUM:1 END");
        check.run(z, 0, 0, 0, OK, 15, 1 + 16 + 15);
    }

    private static void depthAfterTheArguments(Check check) {
        check.sentence("a function would begin while 10 are at work");
        LinkedUnits x = check.linked("FUNC:0/1 IF LOCAL:0 RETURN CALL:0/1 SUB LOCAL:0 NUM:1 END DO CALL:8/1 GET NUM:-1 END" + NOTE);
        check.run(x, 9, 0, 0, ADDRESS, 0, 10);
        LinkedUnits y = check.linked("FUNC:0/1 IF LOCAL:0 RETURN CALL:0/1 SUB LOCAL:0 NUM:1 END DO CALL:8/1 NUM:5 END" + NOTE);
        check.run(y, 9, 0, 0, DEPTH, 0, 11);
        check.same("it did not begin", y.peek(0), 77);
        check.run(y, 8, 0, 0, OK, 0, 10);
        check.same("it began", y.peek(0), 5);
    }

    private static void depthHasTakenItsStep(Check check) {
        check.sentence("DEPTH: a function would begin (its step has been taken)");
        LinkedUnits x = check.linked("FUNC:0/1" + SPEND + " RETURN CALL:1 END FUNC:1 RETURN CALL:1 END");
        check.run(x, 0, 0, 0, DEPTH, 0, 12);
        check.run(x, 187, 0, 0, DEPTH, 0, 199);
        check.run(x, 188, 0, 0, DEPTH, 0, 200);
        check.run(x, 189, 0, 0, LONG, 0, 200);
        check.run(x, 190, 0, 0, LONG, 0, 200);
    }

    private static void whatWasPutStays(Check check) {
        check.sentence("What was PUT before stays");
        int[] answers = {ADDRESS, ADDRESS, LONG, LONG, DEPTH};
        String[] faults = {"DO GET NUM:3", "PUT NUM:3 NUM:1", "WHILE NUM:1 END", "WHILE NUM:1 DO CALL:1 END", "DO CALL:2"};
        for (int i = 0; i < faults.length; i++) {
            LinkedUnits x = check.linked("DATA:7*3 NUM:77 FUNC:0 PUT NUM:0 NUM:1 DO CALL:1 " + faults[i] + " PUT NUM:2 NUM:3 END FUNC:1 PUT NUM:1 NUM:2 END FUNC:2 DO CALL:2 END");
            check.same("run to " + faults[i], x.run(0, 0, 0, 0), answers[i]);
            check.same("peek(0)", x.peek(0), 1);
            check.same("peek(1)", x.peek(1), 2);
            check.same("peek(2)", x.peek(2), 77);
            check.same("result()", x.result(), 0);
        }
    }

    private static void endAtOnce(Check check) {
        check.sentence("FAULTS end a run at once");
        int[] answers = {ADDRESS, ADDRESS, LONG, DEPTH};
        String[] faults = {"RETURN GET NUM:-1", "PUT NUM:-1 NUM:1", "WHILE NUM:1 END", "RETURN CALL:2"};
        for (int i = 0; i < faults.length; i++) {
            LinkedUnits x = check.linked("FUNC:0 IF ADD CALL:2 CALL:8/1 NUM:1 DO CALL:8/1 NUM:2 ELSE DO CALL:8/1 NUM:3 END DO CALL:8/1 NUM:4 RETURN NUM:9 END FUNC:2 "
                + faults[i] + " DO CALL:8/1 NUM:5 END" + NOTE);
            check.same("run to " + faults[i], x.run(0, 0, 0, 0), answers[i]);
            check.same("peek(0)", x.peek(0), 77);
            check.same("result()", x.result(), 0);
        }
    }

    private static void newRunAfterAFault(Check check) {
        check.sentence("FAULTS end a run at once");
        LinkedUnits x = check.linked("FUNC:0/1 IF LOCAL:0 RETURN ADD ADD NUM:1 LOCAL:0 CALL:0/1 SUB LOCAL:0 NUM:1 END RETURN GET LOCAL:0 END DATA:5 NUM:40"
            + " FUNC:1 RETURN ADD NUM:1 GET NUM:1 END FUNC:2 RETURN ADD NUM:1 CALL:3 END FUNC:3 WHILE NUM:1 END END");
        for (int i = 0; i < 9; i++) {
            check.run(x, 10, 0, 0, DEPTH, 0, 11);
            check.runOf(x, 1, new int[3], ADDRESS, 0, 1);
            check.runOf(x, 2, new int[3], LONG, 0, 200);
            check.run(x, 9, 0, 0, OK, 40 + 9 + 45, 10);
        }
    }
}
