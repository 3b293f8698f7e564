/** Promises 5 to 10 and 16: the list, linking and what is linked. */
public final class LinkTest {
    private static final int OK = LinkedUnits.OK, DUPLICATE = LinkedUnits.DUPLICATE;
    private static final int MISSING = LinkedUnits.MISSING, MISMATCH = LinkedUnits.MISMATCH;
    private static final int LARGE = LinkedUnits.LARGE;

    public static void main(String[] args) {
        Check check = new Check();
        including(check);
        listIsEmptyAfterwards(check);
        unitsAsTheyAreAtLinking(check);
        libraries(check);
        librariesGoneThroughOnce(check);
        librariesLookAtTakenUnitsOnly(check);
        weakDefinitions(check);
        duplicates(check);
        missing(check);
        mismatches(check);
        nameByName(check);
        large(check);
        faultLeavesWhatWasLinked(check);
        placesInOrder(check);
        linkedNames(check);
        check.end("LinkTest");
    }

    private static void including(Check check) {
        LinkedUnits x = new LinkedUnits();
        for (int u : new int[] {-1, 5, Integer.MIN_VALUE, Integer.MAX_VALUE}) {
            check.same("include " + u, x.include(u, false), false);
            check.same("include library " + u, x.include(u, true), false);
        }
        for (int u = 4; u >= 0; u--) {
            check.same("include " + u, x.include(u, u % 2 == 0), true);
            check.same("include again " + u, x.include(u, true), false);
            check.same("include again " + u, x.include(u, false), false);
        }
        check.same("link", x.link(), OK);
        check.same("include after link", x.include(2, false), true);
    }

    private static void listIsEmptyAfterwards(Check check) {
        LinkedUnits x = check.units("FUNC:0/3 END", "FUNC:1 DO CALL:2 END", "FUNC:0 END",
            "FUNC:5 DO NAME:0 END", "DATA:1*8 NUM:0 DATA:2*8 NUM:0 DATA:3*8 NUM:0 DATA:4*8 NUM:0 DATA:5*8 NUM:0 DATA:6*8 NUM:0 DATA:7 NUM:0");
        check.link(x, "0", OK, -1);
        check.same("parameters", x.parameters(0), 3);
        check.link(x, "0 1", MISSING, 2);
        check.link(x, "0 2", DUPLICATE, 0);
        check.link(x, "0 3", MISMATCH, 0);
        check.link(x, "0 4", LARGE, -1);
        check.link(x, "0 1", MISSING, 2);
        check.link(x, "", OK, -1);
        check.same("nothing is linked", x.parameters(0), -1);
    }

    private static void unitsAsTheyAreAtLinking(Check check) {
        LinkedUnits x = check.units("FUNC:0 END");
        check.same("include", x.include(0, false), true);
        check.unit(x, 0, "FUNC:1/2 END");
        check.link(x, "", OK, -1);
        check.same("parameters(0)", x.parameters(0), -1);
        check.same("parameters(1)", x.parameters(1), 2);
    }

    private static void libraries(Check check) {
        LinkedUnits x = check.units("FUNC:0 RETURN CALL:1 END", "FUNC:1 RETURN NUM:5 END DATA:6*2 NUM:1",
            "FUNC:2 END DATA:7 NUM:1", "FUNC:3 RETURN NAME:7 END");
        check.link(x, "0 1L 2L", OK, -1);
        check.same("size with 1 only", x.size(), 2);
        check.same("parameters(2)", x.parameters(2), -1);
        check.run(x, 0, 0, 0, OK, 5, 2);
        check.link(x, "2L 1L", OK, -1);
        check.same("no library is wanted", x.size(), 0);
        check.link(x, "3 2L", OK, -1);
        check.same("wanted as NAME", x.at(7), 0);
        check.link(x, "3L 2", OK, -1);
        check.same("parameters(3)", x.parameters(3), -1);
        check.same("a plain unit is taken", x.size(), 1);
        check.unit(x, 3, "FUNC:3 RETURN AT:7 END");
        check.link(x, "3 2L", OK, -1);
        check.same("wanted as AT", x.at(7), 0);
        check.unit(x, 2, "FUNC:7w END");
        check.link(x, "3 2L", MISMATCH, 7);
        check.unit(x, 2, "DATA:7*3w NUM:4");
        check.link(x, "3 2L", OK, -1);
        check.same("a weak one is enough", x.size(), 3);
    }

    private static void librariesGoneThroughOnce(Check check) {
        LinkedUnits x = check.units("FUNC:0 DO CALL:1 END", "FUNC:1 DO CALL:2 END", "FUNC:2 DO CALL:3 END", "FUNC:3 END");
        check.link(x, "0 1L 2L 3L", OK, -1);
        check.same("parameters(3)", x.parameters(3), 0);
        check.link(x, "0 2L 1L 3L", MISSING, 2);
        check.link(x, "1L 2L 3L 0", MISSING, 1);
        check.link(x, "0 1L 3L 2L", MISSING, 3);
    }

    private static void librariesLookAtTakenUnitsOnly(Check check) {
        LinkedUnits x = check.units("FUNC:0 DO CALL:1 END FUNC:1w RETURN NUM:1 END", "FUNC:1 RETURN NUM:2 END DATA:5 NUM:0",
            "FUNC:4 DO NAME:5 END", "DATA:5*4 NUM:0", "FUNC:1/1w END DATA:9 NUM:0 FUNC:8 DO CALL:8 END");
        check.link(x, "0 1L", OK, -1);
        check.same("defined already, weakly", x.size(), 0);
        check.link(x, "2L 3L", OK, -1);
        check.same("wanted by one not taken", x.size(), 0);
        check.link(x, "4L", OK, -1);
        check.same("wanted by itself only", x.size(), 0);
        check.unit(x, 0, "FUNC:0 DO CALL:1/1 NUM:0 END");
        check.link(x, "1L 0 4L", OK, -1);
        check.same("defined by one not taken", x.at(9), 0);
        check.link(x, "0 4L 1L", OK, -1);
        check.same("defined by a library taken before", x.at(5), -1);
        check.link(x, "0 4L 1", MISMATCH, 1);
    }

    private static void weakDefinitions(Check check) {
        LinkedUnits x = check.units("FUNC:0w RETURN NUM:1 END DATA:5*2w NUM:1", "FUNC:0 RETURN NUM:2 END DATA:5*3 NUM:2",
            "FUNC:0w RETURN NUM:3 END DATA:5*4w NUM:3");
        check.link(x, "0 1 2", OK, -1);
        check.run(x, 0, 0, 0, OK, 2, 1);
        check.same("size", x.size(), 3);
        check.link(x, "1 0", OK, -1);
        check.run(x, 0, 0, 0, OK, 2, 1);
        check.link(x, "0 2", OK, -1);
        check.run(x, 0, 0, 0, OK, 1, 1);
        check.same("size", x.size(), 2);
        check.link(x, "2 0", OK, -1);
        check.run(x, 0, 0, 0, OK, 3, 1);
        check.same("peek", x.peek(3), 3);
        check.same("size", x.size(), 4);
        check.unit(x, 0, "FUNC:1 RETURN CALL:0 END FUNC:0w RETURN NUM:4 END");
        check.link(x, "0 1", OK, -1);
        check.runOf(x, 1, new int[3], OK, 2, 2);
        check.unit(x, 1, "DATA:0w NUM:1");
        check.link(x, "1 2", OK, -1);
        check.same("the first weak one is a DATA", x.parameters(0), -1);
        check.same("at", x.at(0), 0);
        check.unit(x, 2, "DATA:0*2 NUM:1");
        check.link(x, "1 2", OK, -1);
        check.same("size", x.size(), 2);
        check.link(x, "2 1", OK, -1);
        check.same("size", x.size(), 2);
    }

    private static void duplicates(Check check) {
        LinkedUnits x = check.units("FUNC:7 END DATA:3 NUM:1 FUNC:4w END", "FUNC:7 END FUNC:3/2 END FUNC:4 END",
            "FUNC:0 DO CALL:1 END", "FUNC:4 END DATA:8 NUM:1", "FUNC:3w END FUNC:7w END");
        check.link(x, "0 1", DUPLICATE, 3);
        check.link(x, "1 0", DUPLICATE, 3);
        check.link(x, "2 0 1", DUPLICATE, 3);
        check.link(x, "4 0", OK, -1);
        check.link(x, "1 3", DUPLICATE, 4);
        check.link(x, "1 0L", OK, -1);
        check.unit(x, 4, "FUNC:11 DO NAME:8 END FUNC:4 END");
        check.link(x, "4 3L", DUPLICATE, 4);
        check.unit(x, 4, "FUNC:4w END");
        check.link(x, "1 4 3", DUPLICATE, 4);
        check.link(x, "4 1", OK, -1);
        check.same("culprit after OK", x.culprit(), -1);
    }

    private static void missing(Check check) {
        LinkedUnits x = check.units("FUNC:0 DO CALL:9 DO NAME:5 DO AT:7 END", "DATA:5 NUM:1", "FUNC:9 END", "DATA:7 NUM:1");
        check.link(x, "0", MISSING, 5);
        check.link(x, "0 1", MISSING, 7);
        check.link(x, "0 1 3", MISSING, 9);
        check.link(x, "2 0 1 3", OK, -1);
        check.same("culprit", x.culprit(), -1);
        check.link(x, "1L 0", MISSING, 5);
    }

    private static void mismatches(Check check) {
        LinkedUnits x = check.units("FUNC:0 DO CALL:1/2 NUM:1 NUM:2 END", "FUNC:1/2 END", "FUNC:1/1 END", "DATA:1 NUM:1", "FUNC:2 DO NAME:1 END");
        check.link(x, "0 1", OK, -1);
        check.link(x, "0 2", MISMATCH, 1);
        check.link(x, "0 3", MISMATCH, 1);
        check.link(x, "4 3", OK, -1);
        check.link(x, "4 1", MISMATCH, 1);
        check.link(x, "4 0 1", MISMATCH, 1);
        check.link(x, "0 1 4", MISMATCH, 1);
        check.unit(x, 4, "FUNC:2 DO AT:1 END");
        check.link(x, "4 3", OK, -1);
        check.link(x, "4 1", MISMATCH, 1);
        check.unit(x, 4, "FUNC:2 DO CALL:1/2 NUM:1 NUM:2 DO CALL:1/3 NUM:1 NUM:2 NUM:3 END");
        check.link(x, "1 4", MISMATCH, 1);
        check.unit(x, 4, "FUNC:1/1w END");
        check.link(x, "0 4 1", OK, -1);
        check.link(x, "0 4", MISMATCH, 1);
        check.unit(x, 3, "DATA:1w NUM:1 FUNC:6 DO NAME:1 END");
        check.link(x, "3", OK, -1);
        check.link(x, "3 1", MISMATCH, 1);
        check.unit(x, 4, "FUNC:6 DO CALL:6 END FUNC:7 DO CALL:6/1 NUM:0 END");
        check.link(x, "4", MISMATCH, 6);
    }

    private static void nameByName(Check check) {
        LinkedUnits x = check.units("FUNC:0 DO CALL:4 DO NAME:5 END", "FUNC:5 END", "DATA:4 NUM:1", "FUNC:4 END", "DATA:5 NUM:1");
        check.link(x, "0 1", MISSING, 4);
        check.link(x, "0 2", MISMATCH, 4);
        check.link(x, "0 1 2", MISMATCH, 4);
        check.link(x, "0 1 3", MISMATCH, 5);
        check.link(x, "0 3", MISSING, 5);
        check.link(x, "0 3 4", OK, -1);
        check.link(x, "0 2 3", DUPLICATE, 4);
    }

    private static void large(Check check) {
        String forty = "DATA:0*8 NUM:0 DATA:1*8 NUM:1 DATA:2*8 NUM:2 DATA:3*8 NUM:3 DATA:4*8 NUM:4";
        LinkedUnits x = check.units(forty, "DATA:5*8 NUM:5", "DATA:6 NUM:6", "DATA:4*8w NUM:1 DATA:7*7 NUM:7", "FUNC:11 DO NAME:10 END");
        check.link(x, "0 1", OK, -1);
        check.same("size", x.size(), 48);
        check.link(x, "0 1 2", LARGE, -1);
        check.link(x, "2 1 0", LARGE, -1);
        check.same("size stays", x.size(), 48);
        check.link(x, "0 2 3", OK, -1);
        check.same("what does not count needs no words", x.size(), 48);
        check.link(x, "0 1 3", LARGE, -1);
        check.link(x, "0 1 2 4", MISSING, 10);
        check.link(x, "0 1 2", LARGE, -1);
        check.unit(x, 4, "DATA:8*8 NUM:1 DATA:9*8 NUM:1 DATA:10*8 NUM:1 DATA:11*8 NUM:1");
        check.link(x, "0 1 2 3 4", LARGE, -1);
    }

    private static void faultLeavesWhatWasLinked(Check check) {
        LinkedUnits x = check.units("FUNC:0/1 PUT AT:5 LOCAL:0 RETURN NAME:5 END DATA:5*2 NUM:4", "FUNC:1 DO CALL:2 END DATA:3 NUM:1",
            "FUNC:0/2 END", "FUNC:4 DO CALL:5 END");
        check.link(x, "0", OK, -1);
        check.same("poke", x.poke(1, 9), true);
        check.link(x, "0 1", MISSING, 2);
        check.link(x, "0 2", DUPLICATE, 0);
        check.link(x, "0 3", MISMATCH, 5);
        check.same("size", x.size(), 2);
        check.same("at(5)", x.at(5), 0);
        check.same("at(3)", x.at(3), -1);
        check.same("parameters(1)", x.parameters(1), -1);
        check.same("peek(0)", x.peek(0), 4);
        check.same("peek(1)", x.peek(1), 9);
        check.run(x, 6, 0, 0, OK, 6, 1);
        check.link(x, "0", OK, -1);
        check.same("the words are new", x.peek(0), 4);
        check.same("the words are new", x.peek(1), 4);
        check.same("result of the latest run", x.result(), 6);
        check.same("steps of the latest run", x.steps(), 1);
    }

    private static void placesInOrder(Check check) {
        LinkedUnits x = check.units("DATA:9*2 NUM:90 FUNC:1 END DATA:3*3 NUM:30", "DATA:5 NUM:50 DATA:3*4w NUM:31 DATA:0*2w NUM:1", "DATA:0*5 NUM:2");
        check.link(x, "1 0 2", OK, -1);
        check.same("at(5)", x.at(5), 0);
        check.same("at(9)", x.at(9), 1);
        check.same("at(3)", x.at(3), 3);
        check.same("at(0)", x.at(0), 6);
        check.same("size", x.size(), 11);
        int[] words = {50, 90, 90, 30, 30, 30, 2, 2, 2, 2, 2, 0};
        for (int place = 0; place < words.length; place++) {
            check.same("peek " + place, x.peek(place), words[place]);
        }
        check.link(x, "0 1", OK, -1);
        check.same("at(9)", x.at(9), 0);
        check.same("at(3)", x.at(3), 2);
        check.same("at(5)", x.at(5), 5);
        check.same("at(0)", x.at(0), 6);
        check.same("size", x.size(), 8);
    }

    private static void linkedNames(Check check) {
        LinkedUnits x = check.units("FUNC:0 END FUNC:1/1 END FUNC:2/2w END FUNC:11/3 END DATA:4*8w NUM:1 DATA:10*3 NUM:2");
        check.link(x, "0", OK, -1);
        int[] parameters = {0, 1, 2, -1, -1, -1, -1, -1, -1, -1, -1, 3};
        int[] places = {-1, -1, -1, -1, 0, -1, -1, -1, -1, -1, 8, -1};
        for (int name = 0; name < 12; name++) {
            check.same("parameters " + name, x.parameters(name), parameters[name]);
            check.same("at " + name, x.at(name), places[name]);
        }
        for (int name : new int[] {-1, 12, 16, Integer.MIN_VALUE, Integer.MAX_VALUE}) {
            check.same("parameters " + name, x.parameters(name), -1);
            check.same("at " + name, x.at(name), -1);
        }
    }
}
