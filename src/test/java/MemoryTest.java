/** Promises 8, 9, 11 and 12: the memory in use, read and written from outside. */
public final class MemoryTest {
    public static void main(String[] args) {
        Check check = new Check();
        wordsInUse(check);
        wordsNotInUse(check);
        smallerMemory(check);
        functionsSeeIt(check);
        check.end("MemoryTest");
    }

    private static void wordsInUse(Check check) {
        LinkedUnits x = check.linked("DATA:0*8 NUM:-1 DATA:1 NUM:2147483647");
        check.same("size", x.size(), 9);
        for (int place = 0; place < 8; place++) {
            check.same("peek " + place, x.peek(place), -1);
        }
        check.same("peek 8", x.peek(8), Integer.MAX_VALUE);
        check.same("poke 8", x.poke(8, Integer.MIN_VALUE), true);
        check.same("poke 0", x.poke(0, 3), true);
        check.same("peek 8", x.peek(8), Integer.MIN_VALUE);
        check.same("peek 0", x.peek(0), 3);
        check.same("peek 1", x.peek(1), -1);
    }

    private static void wordsNotInUse(Check check) {
        LinkedUnits x = check.linked("DATA:0*8 NUM:-1 DATA:1 NUM:-2");
        for (int place : new int[] {-1, 9, 10, 47, 48, 49, Integer.MIN_VALUE, Integer.MAX_VALUE}) {
            check.same("poke " + place, x.poke(place, 4), false);
            check.same("peek " + place, x.peek(place), 0);
        }
        check.same("peek 0", x.peek(0), -1);
        check.same("peek 8", x.peek(8), -2);
        check.same("size", x.size(), 9);
    }

    private static void smallerMemory(Check check) {
        LinkedUnits x = check.linked("DATA:0*8 NUM:7");
        check.unit(x, 0, "DATA:0*2 NUM:5 FUNC:1 RETURN GET NUM:2 END");
        check.link(x, "0", LinkedUnits.OK, -1);
        check.same("size", x.size(), 2);
        check.same("peek 1", x.peek(1), 5);
        check.same("peek 2", x.peek(2), 0);
        check.same("poke 2", x.poke(2, 1), false);
        check.runOf(x, 1, new int[3], LinkedUnits.ADDRESS, 0, 1);
        check.link(x, "", LinkedUnits.OK, -1);
        check.same("size", x.size(), 0);
        check.same("peek 0", x.peek(0), 0);
        check.same("at", x.at(0), -1);
    }

    private static void functionsSeeIt(Check check) {
        LinkedUnits x = check.linked("DATA:9*2 NUM:1 FUNC:0/2 PUT LOCAL:0 LOCAL:1 RETURN NAME:9 END");
        check.same("poke", x.poke(0, 40), true);
        check.run(x, 1, 8, 0, LinkedUnits.OK, 40, 1);
        check.same("peek", x.peek(1), 8);
        check.run(x, 0, 9, 0, LinkedUnits.OK, 9, 1);
        check.same("peek", x.peek(0), 9);
    }
}
