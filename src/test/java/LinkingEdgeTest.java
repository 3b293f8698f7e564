/** The edges of 'Terms' where it tells of wanting and linking: a method for each sentence that names one. */
public final class LinkingEdgeTest {
    private static final int OK = LinkedUnits.OK, DUPLICATE = LinkedUnits.DUPLICATE, LARGE = LinkedUnits.LARGE;
    private static final int MISSING = LinkedUnits.MISSING, MISMATCH = LinkedUnits.MISMATCH;

    public static void main(String[] args) {
        Check check = new Check();
        wantedAsData(check);
        wantedAsFunction(check);
        wantedEverywhere(check);
        plainUnits(check);
        libraryWantedBefore(check);
        libraryNotDefinedBefore(check);
        libraryAtTheEnds(check);
        libraryWantedAsSomethingElse(check);
        libraryBringsAllItHas(check);
        twoThatAreNotWeak(check);
        duplicateInUnitsTaken(check);
        theOneThatCounts(check);
        theFirstWeakOne(check);
        fromTheLeastOn(check);
        missingOrMismatch(check);
        mismatchOfTheOneThatCounts(check);
        placesBehindEachOther(check);
        placesOfThoseThatCount(check);
        fortyEightWords(check);
        largeOfThoseThatCount(check);
        wordsAreTheNumber(check);
        check.end("LinkingEdgeTest");
    }

    private static void wantedAsData(Check check) {
        check.sentence("WANTS those of its NAMEs, ATs (as DATA)");
        for (String use : new String[] {"NAME", "AT"}) {
            LinkedUnits x = check.units("FUNC:1 DO " + use + ":0 DO " + use + ":11 END", "DATA:0*8 NUM:1", "DATA:11 NUM:1", "FUNC:0 END", "FUNC:11 END");
            check.link(x, "0 1 2", OK, -1);
            check.link(x, "0 2", MISSING, 0);
            check.link(x, "0 1", MISSING, 11);
            check.link(x, "0 3 2", MISMATCH, 0);
            check.link(x, "0 1 4", MISMATCH, 11);
        }
    }

    private static void wantedAsFunction(Check check) {
        check.sentence("and CALLs (as FUNC with so many parameters)");
        for (int count = 0; count <= 3; count++) {
            LinkedUnits x = check.units("FUNC:1 DO CALL:11/" + count + " NUM:1".repeat(count) + " END", "DATA:11 NUM:1");
            check.link(x, "0", MISSING, 11);
            check.link(x, "0 1", MISMATCH, 11);
            for (int parameters = 0; parameters <= 3; parameters++) {
                boolean fits = parameters == count;
                check.unit(x, 2, "FUNC:11/" + parameters + " END");
                check.link(x, "0 2", fits ? OK : MISMATCH, fits ? -1 : 11);
                check.unit(x, 2, "FUNC:11/" + parameters + "w END");
                check.link(x, "2 0", fits ? OK : MISMATCH, fits ? -1 : 11);
            }
        }
    }

    private static void wantedEverywhere(Check check) {
        check.sentence("WANTS those of its NAMEs, ATs and CALLs");
        String[] bodies = {"RETURN CALL:5", "SET:0 CALL:5", "PUT CALL:5 NUM:1", "PUT NUM:1 CALL:5", "DO GET CALL:5", "DO NOT CALL:5",
            "DO ADD CALL:5 NUM:1", "DO SAME NUM:1 CALL:5", "DO CALL:1/3 NUM:1 NUM:2 CALL:5", "IF CALL:5 END", "WHILE CALL:5 END",
            "IF NUM:0 DO CALL:5 END", "IF NUM:1 ELSE DO CALL:5 END", "WHILE NUM:0 DO CALL:5 END", "RETURN NUM:1 DO CALL:5"};
        for (String body : bodies) {
            LinkedUnits x = check.units("FUNC:0 END FUNC:1/3 " + body + " END", "FUNC:5 END", "FUNC:5/1 END");
            check.link(x, "0", MISSING, 5);
            check.link(x, "0 1L", OK, -1);
            check.link(x, "0 2", MISMATCH, 5);
        }
        LinkedUnits x = check.units("FUNC:1w DO CALL:5 END", "FUNC:1 END");
        check.link(x, "0 1", MISSING, 5);
    }

    private static void plainUnits(Check check) {
        check.sentence("A plain one is taken");
        LinkedUnits x = check.units("DATA:0 NUM:1", "DATA:1w NUM:1", "", "FUNC:3 END", "FUNC:4 DO CALL:4 END");
        check.link(x, "4 3 2 1 0", OK, -1);
        check.same("size()", x.size(), 2);
        check.same("parameters(3)", x.parameters(3), 0);
        check.same("parameters(4)", x.parameters(4), 0);
    }

    private static void libraryWantedBefore(Check check) {
        check.sentence("a LIBRARY one is taken if it defines a name that a unit taken before it wants");
        LinkedUnits x = check.units("FUNC:0 DO CALL:1 END FUNC:1w END", "FUNC:2 DO NAME:5 END", "DATA:5 NUM:1", "FUNC:3 DO CALL:2 END", "FUNC:4 DO CALL:4 END");
        check.link(x, "1 2L", OK, -1);
        check.same("at(5)", x.at(5), 0);
        check.link(x, "2L 1", MISSING, 5);
        check.link(x, "1L 2L", OK, -1);
        check.same("wanted by one that is not taken", x.at(5), -1);
        check.link(x, "4L", OK, -1);
        check.same("wanted by itself", x.parameters(4), -1);
        check.link(x, "0 2L", OK, -1);
        check.same("other names are wanted", x.at(5), -1);
        check.link(x, "3 1L 2L", OK, -1);
        check.same("wanted by a LIBRARY taken", x.at(5), 0);
        check.link(x, "3 2L 1L", MISSING, 5);
    }

    private static void libraryNotDefinedBefore(Check check) {
        check.sentence("and none taken before it defines");
        LinkedUnits x = check.units("FUNC:0 DO CALL:1 END", "FUNC:1 RETURN NUM:1 END DATA:6 NUM:1", "FUNC:1w RETURN NUM:2 END DATA:7 NUM:1",
            "FUNC:1 RETURN NUM:3 END DATA:8 NUM:1", "FUNC:2 DO CALL:1 END FUNC:1w END");
        check.link(x, "0 1L 3L", OK, -1);
        check.same("the second LIBRARY", x.at(8), -1);
        check.link(x, "0 2L 3L", OK, -1);
        check.same("after a weak one in a LIBRARY", x.at(8), -1);
        check.link(x, "4 3L", OK, -1);
        check.same("after a weak one in the unit that wants it", x.at(8), -1);
        check.link(x, "0 3L 1", DUPLICATE, 1);
        check.link(x, "0 2L 1", OK, -1);
        check.same("the weak LIBRARY", x.at(7), 0);
        check.same("the plain one after it", x.at(6), 1);
        check.link(x, "1L 0 3L", OK, -1);
        check.same("defined only by one not taken", x.at(8), 0);
        check.link(x, "1 0 3L", OK, -1);
        check.same("defined before it is wanted", x.at(8), -1);
    }

    private static void libraryAtTheEnds(Check check) {
        check.sentence("is gone through in order");
        LinkedUnits x = check.units("FUNC:0 DO CALL:1 END", "FUNC:1 DO CALL:2 END", "FUNC:2 DO CALL:3 END", "FUNC:3 DO NAME:4 END", "DATA:4 NUM:1");
        check.link(x, "0 1L 2L 3L 4L", OK, -1);
        check.same("size()", x.size(), 1);
        check.link(x, "0L 1L 2L 3L 4L", OK, -1);
        check.same("size()", x.size(), 0);
        check.link(x, "0 1L 2L 4L 3L", MISSING, 4);
        check.link(x, "1L 0 2L 3L 4L", MISSING, 1);
        check.link(x, "4L 3 2L 1L 0L", MISSING, 4);
    }

    private static void libraryWantedAsSomethingElse(Check check) {
        check.sentence("taken if it defines a name that a unit taken before it wants");
        LinkedUnits x = check.units("FUNC:0 DO CALL:1 END", "DATA:1 NUM:1", "FUNC:1/1 END", "FUNC:2 DO NAME:1 END", "FUNC:1 END");
        check.link(x, "0 1L", MISMATCH, 1);
        check.link(x, "0 2L 4L", MISMATCH, 1);
        check.link(x, "3 4L", MISMATCH, 1);
        check.link(x, "3 1L", OK, -1);
        check.link(x, "0 4L", OK, -1);
    }

    private static void libraryBringsAllItHas(Check check) {
        check.sentence("a LIBRARY one is taken");
        LinkedUnits x = check.units("FUNC:0 DO CALL:1 END DATA:6 NUM:1", "DATA:5 NUM:1 FUNC:1 END DATA:7 NUM:1", "FUNC:1 END DATA:6 NUM:2", "FUNC:1 DO NAME:9 END");
        check.link(x, "0 1L", OK, -1);
        check.same("at(5)", x.at(5), 1);
        check.same("at(7)", x.at(7), 2);
        check.link(x, "0 2L", DUPLICATE, 6);
        check.link(x, "0 3L", MISSING, 9);
    }

    private static void twoThatAreNotWeak(Check check) {
        check.sentence("If a name has two definitions that are not weak in units taken: DUPLICATE");
        for (int name : new int[] {0, 11}) {
            String function = "FUNC:" + name;
            String data = "DATA:" + name;
            LinkedUnits x = check.units(function + " END", function + "/2 END", data + " NUM:1", function + "w END", data + "*8w NUM:1");
            check.link(x, "0 1", DUPLICATE, name);
            check.link(x, "0 2", DUPLICATE, name);
            check.link(x, "2 1", DUPLICATE, name);
            check.link(x, "2 1 0", DUPLICATE, name);
            check.link(x, "0 3 4", OK, -1);
            check.link(x, "3 0 4", OK, -1);
            check.link(x, "3 4 2", OK, -1);
            check.link(x, "3 4", OK, -1);
            check.link(x, "3 0 4 1", DUPLICATE, name);
            check.link(x, "0 3 4 2", DUPLICATE, name);
        }
    }

    private static void duplicateInUnitsTaken(Check check) {
        check.sentence("two definitions that are not weak in units taken");
        LinkedUnits x = check.units("FUNC:0 END", "FUNC:0 END FUNC:1 END", "FUNC:2 DO CALL:1 END");
        check.link(x, "0 1L", OK, -1);
        check.link(x, "0L 1", OK, -1);
        check.link(x, "0 2 1L", DUPLICATE, 0);
    }

    private static void theOneThatCounts(Check check) {
        check.sentence("The definition that COUNTS for a name is the one that is not weak");
        LinkedUnits x = check.units("FUNC:0/1w RETURN NUM:1 END", "FUNC:0/2 RETURN NUM:2 END", "DATA:0w NUM:1", "FUNC:3 RETURN CALL:0/2 NUM:1 NUM:1 END");
        for (String list : new String[] {"0 1 2 3", "1 0 2 3", "2 0 1 3", "3 2 0 1"}) {
            check.link(x, list, OK, -1);
            check.same("parameters(0)", x.parameters(0), 2);
            check.same("at(0)", x.at(0), -1);
            check.same("size()", x.size(), 0);
            check.runOf(x, 3, new int[3], OK, 2, 2);
        }
        check.unit(x, 1, "DATA:0*3 NUM:8");
        check.link(x, "0 1 2", OK, -1);
        check.same("parameters(0)", x.parameters(0), -1);
        check.same("at(0)", x.at(0), 0);
        check.same("size()", x.size(), 3);
        check.run(x, 0, 0, 0, LinkedUnits.BAD, 0, 2);
    }

    private static void theFirstWeakOne(Check check) {
        check.sentence("else the first of the weak ones (in the order of the list)");
        LinkedUnits x = check.units("FUNC:11/1w END", "FUNC:11/2w END", "DATA:11*3w NUM:1");
        check.link(x, "0 1 2", OK, -1);
        check.same("parameters(11)", x.parameters(11), 1);
        check.link(x, "1 0 2", OK, -1);
        check.same("parameters(11)", x.parameters(11), 2);
        check.link(x, "2 1 0", OK, -1);
        check.same("parameters(11)", x.parameters(11), -1);
        check.same("size()", x.size(), 3);
        check.link(x, "2L 1 0", OK, -1);
        check.same("the first one taken", x.parameters(11), 2);
    }

    private static void fromTheLeastOn(Check check) {
        check.sentence("for each name that is wanted, from the least on");
        LinkedUnits x = check.units("FUNC:5 DO NAME:11 DO CALL:0 END", "FUNC:11 END", "DATA:0 NUM:1", "FUNC:0 END", "DATA:11 NUM:1");
        check.link(x, "0", MISSING, 0);
        check.link(x, "0 1", MISSING, 0);
        check.link(x, "0 4", MISSING, 0);
        check.link(x, "0 2", MISMATCH, 0);
        check.link(x, "1 0 2", MISMATCH, 0);
        check.link(x, "0 3", MISSING, 11);
        check.link(x, "0 3 1", MISMATCH, 11);
        check.link(x, "0 3 4", OK, -1);
    }

    private static void missingOrMismatch(Check check) {
        check.sentence("MISSING if none is there");
        LinkedUnits x = check.units("FUNC:0 DO CALL:1 DO NAME:1 END", "FUNC:1 END", "DATA:1 NUM:1", "FUNC:2 END");
        check.link(x, "0", MISSING, 1);
        check.link(x, "0 2 3", MISMATCH, 1);
        check.sentence("MISMATCH if it is not wanted (by some unit taken) as what it is");
        check.link(x, "0 1", MISMATCH, 1);
        check.unit(x, 0, "FUNC:0 DO CALL:1 END");
        check.unit(x, 3, "FUNC:2 DO NAME:1 END");
        check.link(x, "0 1", OK, -1);
        check.link(x, "0 3 1", MISMATCH, 1);
        check.link(x, "3 0 2", MISMATCH, 1);
        check.link(x, "0 1 3L", OK, -1);
        check.link(x, "3L 0 1", OK, -1);
        check.sentence("for each name that is wanted");
        check.link(x, "1", OK, -1);
        check.link(x, "2", OK, -1);
    }

    private static void mismatchOfTheOneThatCounts(Check check) {
        check.sentence("The definition that COUNTS .. MISMATCH if it is not wanted as what it is");
        LinkedUnits x = check.units("FUNC:0 DO CALL:1/3 NUM:1 NUM:2 NUM:3 END", "FUNC:1/3w END", "FUNC:1/2 END", "DATA:1w NUM:1");
        check.link(x, "0 1", OK, -1);
        check.link(x, "0 1 2", MISMATCH, 1);
        check.link(x, "0 1 3", OK, -1);
        check.link(x, "0 3 1", MISMATCH, 1);
        check.unit(x, 2, "FUNC:1/3 END");
        check.link(x, "0 3 2", OK, -1);
    }

    private static void placesBehindEachOther(Check check) {
        check.sentence("one behind the other from 0 on, in the order of the list and of their units");
        LinkedUnits x = check.units("DATA:11*2 NUM:1 DATA:0 NUM:2", "DATA:5*8 NUM:3 FUNC:1 END DATA:4 NUM:4");
        check.link(x, "0 1", OK, -1);
        int[] first = {11, 0, 5, 4, 0, 2, 3, 11};
        int[] second = {5, 4, 11, 0, 0, 8, 9, 11};
        for (int i = 0; i < 4; i++) {
            check.same("at(" + first[i] + ")", x.at(first[i]), first[i + 4]);
        }
        check.link(x, "1 0", OK, -1);
        for (int i = 0; i < 4; i++) {
            check.same("at(" + second[i] + ")", x.at(second[i]), second[i + 4]);
        }
        check.same("size()", x.size(), 12);
    }

    private static void placesOfThoseThatCount(Check check) {
        check.sentence("Then the DATAs that count get their places");
        LinkedUnits x = check.units("DATA:0*8w NUM:1 DATA:1 NUM:2", "DATA:2*3 NUM:3 DATA:0*4 NUM:4", "DATA:2*8w NUM:5 DATA:3w NUM:6");
        check.link(x, "0 1 2", OK, -1);
        check.same("at(1)", x.at(1), 0);
        check.same("at(2)", x.at(2), 1);
        check.same("at(0)", x.at(0), 4);
        check.same("at(3)", x.at(3), 8);
        check.same("size()", x.size(), 9);
    }

    private static void fortyEightWords(Check check) {
        check.sentence("LARGE if they need more than 48 words");
        String forty = "DATA:0*8 NUM:1 DATA:1*8 NUM:2 DATA:2*8 NUM:3 DATA:3*8 NUM:4 DATA:4*8 NUM:5";
        LinkedUnits x = check.units(forty, "DATA:5*7 NUM:6", "DATA:6 NUM:7", "DATA:7 NUM:8", "DATA:5*8 NUM:9 DATA:8*8 NUM:1 DATA:9*8 NUM:1 DATA:10*8 NUM:1 DATA:11*8 NUM:1");
        check.link(x, "0 1", OK, -1);
        check.same("size()", x.size(), 47);
        check.link(x, "0 1 2", OK, -1);
        check.same("size()", x.size(), 48);
        check.same("at(6)", x.at(6), 47);
        check.same("peek(47)", x.peek(47), 7);
        check.link(x, "0 1 2 3", LARGE, -1);
        check.same("size()", x.size(), 48);
        check.same("at(7)", x.at(7), -1);
        check.link(x, "0 2 4", LARGE, -1);
        check.link(x, "4 0", LARGE, -1);
        check.same("peek(47)", x.peek(47), 7);
    }

    private static void largeOfThoseThatCount(Check check) {
        check.sentence("Then the DATAs that count .. LARGE if they need more than 48 words");
        String forty = "DATA:0*8w NUM:1 DATA:1*8w NUM:2 DATA:2*8 NUM:3 DATA:3*8 NUM:4 DATA:4*8 NUM:5";
        LinkedUnits x = check.units(forty, "DATA:5*8 NUM:6 DATA:0 NUM:7", "DATA:6*7 NUM:8", "DATA:7 NUM:9", "FUNC:1 END");
        check.link(x, "0 1 2", OK, -1);
        check.same("size()", x.size(), 48);
        check.link(x, "0 1 2 3", LARGE, -1);
        check.link(x, "0 1 2 3L", OK, -1);
        check.link(x, "0 1 2 3 4", OK, -1);
        check.same("a FUNC needs none", x.size(), 41);
    }

    private static void wordsAreTheNumber(Check check) {
        check.sentence("Their words are the NUM");
        LinkedUnits x = check.linked("DATA:0 NUM:-2147483648 DATA:1*8 NUM:2147483647 DATA:2*2 NUM:0");
        check.same("peek(0)", x.peek(0), Integer.MIN_VALUE);
        for (int place = 1; place <= 8; place++) {
            check.same("peek(" + place + ")", x.peek(place), Integer.MAX_VALUE);
            check.same("poke(" + place + ")", x.poke(place, 5), true);
        }
        check.same("peek(9)", x.peek(9), 0);
        check.same("poke(10)", x.poke(10, 6), true);
        check.link(x, "0", OK, -1);
        check.same("peek(1) linked again", x.peek(1), Integer.MAX_VALUE);
        check.same("peek(8) linked again", x.peek(8), Integer.MAX_VALUE);
        check.same("peek(10) linked again", x.peek(10), 0);
    }
}
