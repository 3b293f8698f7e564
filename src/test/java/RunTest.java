/** Promises 13 to 16: running, its faults, results and steps. */
public final class RunTest {
    private static final int OK = LinkedUnits.OK, ADDRESS = LinkedUnits.ADDRESS, LONG = LinkedUnits.LONG;
    private static final int DEPTH = LinkedUnits.DEPTH, BAD = LinkedUnits.BAD;
    private static final int LEAST = Integer.MIN_VALUE, MOST = Integer.MAX_VALUE;

    public static void main(String[] args) {
        Check check = new Check();
        arithmetic(check);
        bits(check);
        comparisons(check);
        arguments(check);
        ending(check);
        branches(check);
        loops(check);
        calls(check);
        names(check);
        orderOfOperands(check);
        addresses(check);
        longRuns(check);
        depths(check);
        depthAfterItsStep(check);
        bad(check);
        deepExpressions(check);
        check.end("RunTest");
    }

    private static void binary(Check check, String operator, int... rows) {
        LinkedUnits x = check.linked("FUNC:0/2 RETURN " + operator + " LOCAL:0 LOCAL:1 END");
        for (int i = 0; i < rows.length; i += 3) {
            check.run(x, rows[i], rows[i + 1], 99, OK, rows[i + 2], 1);
        }
    }

    private static void arithmetic(Check check) {
        binary(check, "ADD", 2, 3, 5, MOST, 1, LEAST, LEAST, LEAST, 0, -1, -1, -2);
        binary(check, "SUB", 2, 3, -1, LEAST, 1, MOST, 0, LEAST, LEAST, 5, 5, 0);
        binary(check, "MUL", 2, 3, 6, 65536, 65536, 0, LEAST, -1, LEAST, MOST, 2, -2, -3, 7, -21);
        binary(check, "DIV", 7, 2, 3, -7, 2, -3, 7, -2, -3, -7, -2, 3, 5, 0, -1, 0, 0, -1, LEAST, -1, LEAST, LEAST, 0, -1, -5, 0, -1, 5, -1, -5, 0, 9, 0);
        binary(check, "REM", 7, 2, 1, -7, 2, -1, 7, -2, 1, -7, -2, -1, 5, 0, 5, 0, 0, 0, LEAST, -1, 0, LEAST, 0, LEAST, -5, 0, -5, 5, -1, 0, 3, 9, 3);
    }

    private static void bits(Check check) {
        binary(check, "AND", 12, 10, 8, -1, 5, 5, 1, 2, 0);
        binary(check, "OR", 12, 10, 14, -1, 5, -1, 1, 2, 3);
        binary(check, "XOR", 12, 10, 6, -1, 5, -6, 3, 3, 0);
        binary(check, "SHL", 1, 31, LEAST, 1, 32, 1, 3, 33, 6, 1, -1, LEAST, 5, 0, 5, LEAST, 1, 0);
        binary(check, "SHR", LEAST, 31, -1, -8, 1, -4, 8, 33, 4, -1, -1, -1, 8, 32, 8, MOST, 30, 1);
    }

    private static void comparisons(Check check) {
        binary(check, "LESS", 1, 2, 1, 2, 1, 0, 2, 2, 0, LEAST, MOST, 1, MOST, LEAST, 0, -1, 0, 1);
        binary(check, "SAME", 1, 2, 0, 2, 2, 1, LEAST, LEAST, 1, LEAST, MOST, 0, 0, 0, 1);
        LinkedUnits x = check.linked("FUNC:0/1 RETURN NOT LOCAL:0 END");
        check.run(x, 0, 0, 0, OK, 1, 1);
        check.run(x, 1, 0, 0, OK, 0, 1);
        check.run(x, -1, 0, 0, OK, 0, 1);
        check.run(x, LEAST, 0, 0, OK, 0, 1);
    }

    private static void arguments(Check check) {
        String sum = " RETURN ADD LOCAL:0 ADD MUL NUM:10 LOCAL:1 ADD MUL NUM:100 LOCAL:2 ADD LOCAL:3 ADD LOCAL:4 LOCAL:5 END";
        int[] due = {0, 1, 21, 321};
        for (int count = 0; count <= 3; count++) {
            LinkedUnits x = check.linked("FUNC:0/" + count + sum);
            check.run(x, 1, 2, 3, OK, due[count], 1);
        }
        LinkedUnits x = check.linked("FUNC:0/3 RETURN CALL:1/3 LOCAL:2 LOCAL:0 LOCAL:1 END FUNC:1/3 RETURN ADD LOCAL:0 ADD MUL NUM:10 LOCAL:1 MUL NUM:100 LOCAL:2 END");
        check.run(x, 1, 2, 3, OK, 213, 2);
        LinkedUnits y = check.linked("FUNC:0/1 SET:3 NUM:7 SET:5 CALL:1/1 NUM:4 RETURN ADD LOCAL:3 LOCAL:0 END FUNC:1/1 SET:0 ADD LOCAL:3 NUM:1 SET:3 NUM:50 RETURN LOCAL:0 END");
        check.run(y, 20, 0, 0, OK, 27, 2);
        LinkedUnits z = check.linked("FUNC:0 DO CALL:1 RETURN CALL:1 END FUNC:1 SET:5 ADD LOCAL:5 NUM:1 RETURN LOCAL:5 END");
        check.run(z, 0, 0, 0, OK, 1, 3);
        check.run(z, 0, 0, 0, OK, 1, 3);
    }

    private static void ending(Check check) {
        check.run(check.linked("FUNC:0/1 END"), 5, 0, 0, OK, 0, 1);
        check.run(check.linked("FUNC:0/1 DO LOCAL:0 END"), 5, 0, 0, OK, 0, 1);
        check.run(check.linked("FUNC:0/1 SET:0 NUM:4 END"), 5, 0, 0, OK, 0, 1);
        check.run(check.linked("FUNC:0 RETURN NUM:4 RETURN NUM:5 END"), 0, 0, 0, OK, 4, 1);
        check.run(check.linked("FUNC:0 RETURN ADD NUM:1 CALL:1 END FUNC:1 DO NUM:9 END"), 0, 0, 0, OK, 1, 2);
        check.run(check.linked("FUNC:0 WHILE NUM:1 IF NUM:1 RETURN NUM:4 END END END"), 0, 0, 0, OK, 4, 2);
        check.run(check.linked("FUNC:1 RETURN NUM:1 END FUNC:0 END FUNC:2 RETURN NUM:3 END"), 0, 0, 0, OK, 0, 1);
    }

    private static void branches(Check check) {
        LinkedUnits x = check.linked("FUNC:0/2 IF LOCAL:0 IF LOCAL:1 SET:2 NUM:1 ELSE SET:2 NUM:2 END SET:3 NUM:10 ELSE IF LOCAL:1 SET:2 NUM:3 END SET:3 NUM:20 END RETURN ADD LOCAL:2 LOCAL:3 END");
        check.run(x, 1, 1, 0, OK, 11, 1);
        check.run(x, -1, 0, 0, OK, 12, 1);
        check.run(x, 0, LEAST, 0, OK, 23, 1);
        check.run(x, 0, 0, 0, OK, 20, 1);
        LinkedUnits y = check.linked("FUNC:0/1 IF LOCAL:0 ELSE RETURN NUM:5 END RETURN NUM:6 END");
        check.run(y, 1, 0, 0, OK, 6, 1);
        check.run(y, 0, 0, 0, OK, 5, 1);
        LinkedUnits z = check.linked("FUNC:0/1 IF LOCAL:0 END IF NOT LOCAL:0 RETURN NUM:5 ELSE END END");
        check.run(z, 1, 0, 0, OK, 0, 1);
        check.run(z, 0, 0, 0, OK, 5, 1);
    }

    private static void loops(Check check) {
        LinkedUnits x = check.linked("FUNC:0/1 WHILE LESS LOCAL:1 LOCAL:0 SET:1 ADD LOCAL:1 NUM:1 SET:2 ADD LOCAL:2 LOCAL:1 END RETURN LOCAL:2 END");
        check.run(x, 0, 0, 0, OK, 0, 2);
        check.run(x, 1, 0, 0, OK, 1, 3);
        check.run(x, 10, 0, 0, OK, 55, 12);
        LinkedUnits y = check.linked("FUNC:0/2 WHILE LOCAL:0 SET:3 LOCAL:1 WHILE LOCAL:3 SET:3 SUB LOCAL:3 NUM:1 SET:4 ADD LOCAL:4 NUM:1 END SET:0 SUB LOCAL:0 NUM:1 END RETURN LOCAL:4 END");
        check.run(y, 3, 4, 0, OK, 12, 1 + 4 + 3 * 5);
        LinkedUnits z = check.linked("FUNC:0/1 WHILE CALL:1/1 LOCAL:0 SET:0 SUB LOCAL:0 NUM:1 END RETURN NUM:9 END FUNC:1/1 RETURN LOCAL:0 END");
        check.run(z, 3, 0, 0, OK, 9, 1 + 4 + 4);
    }

    private static void calls(Check check) {
        LinkedUnits x = check.linked("FUNC:0/1 IF LESS LOCAL:0 NUM:2 RETURN LOCAL:0 END RETURN ADD CALL:0/1 SUB LOCAL:0 NUM:1 CALL:0/1 SUB LOCAL:0 NUM:2 END");
        check.run(x, 1, 0, 0, OK, 1, 1);
        check.run(x, 7, 0, 0, OK, 13, 41);
        check.run(x, 9, 0, 0, OK, 34, 109);
        LinkedUnits y = new LinkedUnits();
        check.unit(y, 3, "FUNC:0 RETURN CALL:5/2 CALL:5/2 NUM:1 NUM:2 CALL:5/2 NUM:3 NUM:4 END");
        check.unit(y, 1, "FUNC:9 END FUNC:5/2 RETURN SUB MUL LOCAL:0 NUM:10 LOCAL:1 END");
        check.link(y, "3 1", OK, -1);
        check.run(y, 0, 0, 0, OK, 80 - 26, 4);
        check.runOf(y, 5, new int[] {4, 1, 0}, OK, 39, 1);
        check.runOf(y, 9, new int[] {4, 1, 0}, OK, 0, 1);
    }

    private static void names(Check check) {
        LinkedUnits x = check.linked("DATA:3*2 NUM:5 DATA:1*3 NUM:6 FUNC:0/1 PUT ADD AT:1 LOCAL:0 NUM:70 RETURN ADD NAME:1 MUL NUM:1000 AT:1 END FUNC:2/1 RETURN GET LOCAL:0 END");
        check.run(x, 1, 0, 0, OK, 2006, 1);
        check.same("peek 3", x.peek(3), 70);
        check.same("peek 2", x.peek(2), 6);
        check.run(x, 0, 0, 0, OK, 2070, 1);
        check.run(x, -2, 0, 0, OK, 2070, 1);
        check.same("peek 0", x.peek(0), 70);
        check.runOf(x, 2, new int[] {1, 0, 0}, OK, 5, 1);
        check.runOf(x, 2, new int[] {4, 0, 0}, OK, 6, 1);
        check.runOf(x, 2, new int[] {5, 0, 0}, ADDRESS, 0, 1);
    }

    // Function 1 notes its argument as the next digit of the word 7 and gives it back.
    private static void orderOfOperands(Check check) {
        String note = " DATA:7*4 NUM:0 FUNC:1/1 PUT AT:7 ADD MUL NAME:7 NUM:10 LOCAL:0 RETURN LOCAL:0 END";
        LinkedUnits x = check.linked("FUNC:0 RETURN SUB CALL:1/1 NUM:3 MUL CALL:1/1 NUM:4 CALL:1/1 NUM:5 END" + note);
        check.run(x, 0, 0, 0, OK, -17, 4);
        check.same("operands", x.peek(0), 345);
        LinkedUnits y = check.linked("FUNC:0 PUT CALL:1/1 NUM:1 CALL:1/1 NUM:2 END" + note);
        check.run(y, 0, 0, 0, OK, 0, 3);
        check.same("PUT", y.peek(0), 12);
        check.same("PUT", y.peek(1), 2);
        LinkedUnits z = check.linked("FUNC:0 DO CALL:2/3 CALL:1/1 NUM:1 CALL:1/1 NUM:2 CALL:1/1 NUM:3 RETURN SUB NAME:7 CALL:1/1 NUM:9 END FUNC:2/3 DO CALL:1/1 NUM:4 END" + note);
        check.run(z, 0, 0, 0, OK, 1225, 7);
        check.same("arguments come before the function", z.peek(0), 12349);
        LinkedUnits w = check.linked("FUNC:0 DO AND CALL:1/1 NUM:0 CALL:1/1 NUM:6 DO OR CALL:1/1 NUM:7 CALL:1/1 NUM:8 END" + note);
        check.run(w, 0, 0, 0, OK, 0, 5);
        check.same("AND and OR work out both", w.peek(0), 678);
    }

    private static void addresses(Check check) {
        LinkedUnits x = check.linked("DATA:7*3 NUM:1 FUNC:0/2 PUT NUM:0 NUM:5 PUT LOCAL:0 CALL:1/1 LOCAL:1 PUT NUM:1 NUM:6 RETURN NUM:9 END FUNC:1/1 PUT NUM:2 LOCAL:0 END");
        for (int place : new int[] {-1, 3, 48, LEAST, MOST}) {
            check.run(x, place, place, 0, ADDRESS, 0, 2);
            check.same("what was PUT before stays", x.peek(0), 5);
            check.same("both are worked out", x.peek(2), place);
            check.same("nothing after it", x.peek(1), 1);
        }
        check.run(x, 2, 4, 0, OK, 9, 2);
        check.same("peek", x.peek(2), 0);
        LinkedUnits y = check.linked("DATA:7 NUM:1 FUNC:0/1 RETURN ADD GET LOCAL:0 CALL:1 END FUNC:1 PUT AT:7 NUM:8 END");
        check.run(y, 1, 0, 0, ADDRESS, 0, 1);
        check.same("GET fails at once", y.peek(0), 1);
        check.run(y, 0, 0, 0, OK, 1, 2);
        check.same("peek", y.peek(0), 8);
        LinkedUnits z = check.linked("FUNC:0 RETURN CALL:1 END FUNC:1 WHILE GET NUM:0 END END");
        check.run(z, 0, 0, 0, ADDRESS, 0, 3);
        LinkedUnits w = check.linked("DATA:7 NUM:3 FUNC:0 PUT GET NUM:1 CALL:1 END FUNC:1 PUT AT:7 NUM:8 END");
        check.run(w, 0, 0, 0, ADDRESS, 0, 1);
        check.same("the first E comes first", w.peek(0), 3);
    }

    private static void longRuns(Check check) {
        LinkedUnits x = check.linked("DATA:7 NUM:0 FUNC:0/1 WHILE LESS LOCAL:1 LOCAL:0 SET:1 ADD LOCAL:1 NUM:1 PUT AT:7 LOCAL:1 END RETURN NUM:3 END");
        check.run(x, 198, 0, 0, OK, 3, 200);
        check.same("peek", x.peek(0), 198);
        check.run(x, 199, 0, 0, LONG, 0, 200);
        check.same("peek", x.peek(0), 199);
        check.run(x, 1000, 0, 0, LONG, 0, 200);
        check.same("peek", x.peek(0), 199);
        check.run(x, 0, 0, 0, OK, 3, 2);
        LinkedUnits y = check.linked("DATA:7 NUM:0 FUNC:0 WHILE CALL:1 END END FUNC:1 PUT AT:7 ADD NAME:7 NUM:1 RETURN NUM:1 END");
        check.run(y, 0, 0, 0, LONG, 0, 200);
        check.same("calls that began", y.peek(0), 99);
        LinkedUnits z = check.linked("FUNC:0/1 WHILE LESS LOCAL:1 LOCAL:0 SET:1 ADD LOCAL:1 NUM:1 DO CALL:1/1 LOCAL:1 END RETURN CALL:1/1 NUM:4 END FUNC:1/1 RETURN LOCAL:0 END");
        check.run(z, 98, 0, 0, OK, 4, 199);
        check.run(z, 99, 0, 0, LONG, 0, 200);
    }

    private static void depths(Check check) {
        LinkedUnits x = check.linked("DATA:7 NUM:0 FUNC:0/1 PUT AT:7 ADD NAME:7 NUM:1 IF LOCAL:0 RETURN ADD NUM:1 CALL:0/1 SUB LOCAL:0 NUM:1 END RETURN NUM:5 END");
        check.run(x, 9, 0, 0, OK, 14, 10);
        check.same("functions that began", x.peek(0), 10);
        check.run(x, 10, 0, 0, DEPTH, 0, 11);
        check.same("functions that began", x.peek(0), 20);
        check.run(x, -1, 0, 0, DEPTH, 0, 11);
        check.run(x, 9, 0, 0, OK, 14, 10);
        LinkedUnits y = check.linked("DATA:7 NUM:0 FUNC:0/1 IF LOCAL:0 RETURN CALL:0/1 SUB LOCAL:0 NUM:1 END RETURN CALL:1/1 CALL:2 END FUNC:1/1 PUT AT:7 NUM:1 END FUNC:2 PUT AT:7 NUM:2 END");
        check.run(y, 9, 0, 0, DEPTH, 0, 11);
        check.same("no function began", y.peek(0), 0);
        check.run(y, 8, 0, 0, OK, 0, 11);
        check.same("both began", y.peek(0), 1);
    }

    // Uses 190 steps up in a loop, so that the tenth call has the last step or none.
    private static void depthAfterItsStep(Check check) {
        LinkedUnits x = check.linked("FUNC:0/1 WHILE LOCAL:0 SET:0 SUB LOCAL:0 NUM:1 END RETURN CALL:1 END FUNC:1 RETURN CALL:1 END");
        check.run(x, 188, 0, 0, DEPTH, 0, 200);
        check.run(x, 187, 0, 0, DEPTH, 0, 199);
        check.run(x, 189, 0, 0, LONG, 0, 200);
        check.run(x, 190, 0, 0, LONG, 0, 200);
    }

    private static void bad(Check check) {
        LinkedUnits x = check.linked("DATA:7 NUM:3 FUNC:0 RETURN NAME:7 END FUNC:11 DO CALL:11 END");
        for (int name : new int[] {-1, 1, 7, 10, 12, 16, LEAST, MOST}) {
            check.run(x, 0, 0, 0, OK, 3, 1);
            check.runOf(x, name, new int[3], BAD, 0, 1);
        }
        check.runOf(x, 11, new int[3], DEPTH, 0, 11);
        check.runOf(x, 12, new int[3], BAD, 0, 11);
        check.link(x, "", OK, -1);
        check.run(x, 0, 0, 0, BAD, 0, 11);
    }

    private static void deepExpressions(Check check) {
        LinkedUnits x = check.linked("FUNC:0 RETURN" + " ADD".repeat(22) + " NUM:1".repeat(23) + " END");
        check.run(x, 0, 0, 0, OK, 23, 1);
        LinkedUnits y = check.linked("FUNC:0/1 IF LOCAL:0 RETURN" + " ADD NUM:1".repeat(19) + " CALL:0/1 SUB LOCAL:0 NUM:1 END END");
        check.run(y, 9, 0, 0, OK, 19 * 9, 10);
        for (int i = 0; i < 10; i++) {
            check.run(y, 10, 0, 0, DEPTH, 0, 11);
        }
        check.run(y, 9, 0, 0, OK, 19 * 9, 10);
    }
}
