/**
 * Rules 7, 8 and 11 of LANGUAGE.md: in any state, also behind the 512th call, any call ends and throws
 * nothing, and the same calls on two objects answer the same.
 */
public final class AnyCallTest {
    private static final int OBJECTS = 1000, CALLS = 5000, CALLS_OF_THE_FACE = 14, TOKEN = 0, RUN = 11;
    private static final int[] EDGES = {
        Integer.MIN_VALUE, Integer.MIN_VALUE + 1, -129, -65, -17, -16, -2, -1, 0, 1, 2, 4, 5, 6, 11, 12, 15, 16,
        19, 29, 30, 31, 47, 48, 49, 50, 63, 64, 127, 128, 255, 256, 511, 512, 1 << 16, Integer.MAX_VALUE};

    private final Check check = new Check();
    private final int[] runs = new int[11];
    private long state = 20261116;

    public static void main(String[] args) {
        AnyCallTest test = new AnyCallTest();
        for (int i = 0; i < OBJECTS; i++) {
            test.object(i % 2 == 0);
        }
        test.everyRunWasMet();
        test.everyCallWithEveryEdge();
        test.check.end("AnyCallTest");
    }

    private int pick(int bound) {
        state = state * 6364136223846793005L + 1442695040888963407L;
        return (int) ((state >>> 33) % bound);
    }

    private int number(boolean isWild) {
        return isWild && pick(4) == 0 ? EDGES[pick(EDGES.length)] : pick(14) - 1;
    }

    // The tame objects get units that can be linked, so that their runs go somewhere.
    private void object(boolean isWild) {
        LinkedUnits one = new LinkedUnits();
        LinkedUnits two = new LinkedUnits();
        for (int i = 0; i < CALLS; i++) {
            if (!isWild && pick(10) == 0) {
                int name = pick(6);
                int other = pick(3) == 0 ? pick(6) : name;
                int kind = 6 + pick(12);
                defineAndList(one, name, other, kind);
                defineAndList(two, name, other, kind);
            }
            int which = pick(CALLS_OF_THE_FACE);
            int a = which == TOKEN ? pick(32) - 1 : number(isWild);
            int b = number(isWild);
            int c = number(isWild);
            int answer = call(one, which, a, b, c);
            check.same("call " + which + " of " + a + ", " + b + ", " + c, call(two, which, a, b, c), answer);
            if (which == RUN) {
                runs[answer + 1]++;
            }
        }
    }

    // A function of one parameter with a loop around a call, and a DATA of four words.
    private static void defineAndList(LinkedUnits x, int name, int other, int kind) {
        int[] tokens = {
            28, 64 + 16 + name,
            24, 0, 1, 0, 20, 0, 7, 0, 1, 0, 0, 1, 21, 0, 3, 6 + name, 5, 16 + other, 10, 0, 1, 0, 0, 1 + name % 2, 27, 0,
            25, 0, 4, 0, kind, 0, 2, 6 + name, 0, 1, 27, 0,
            29, 6 + name + 16 * 3 + 128, 0, name};
        x.unit(4);
        for (int i = 0; i < tokens.length; i += 2) {
            x.token(tokens[i], tokens[i + 1]);
        }
        x.unit(name % 5);
        x.include(name % 5, kind == 6);
    }

    // A test whose runs never come to a fault would say nothing about it.
    private void everyRunWasMet() {
        for (int answer : new int[] {LinkedUnits.BAD, LinkedUnits.OK, LinkedUnits.ADDRESS, LinkedUnits.LONG, LinkedUnits.DEPTH}) {
            check.same("runs that answered " + answer + " were met", runs[answer + 1] > 50, true);
        }
    }

    private void everyCallWithEveryEdge() {
        LinkedUnits one = new LinkedUnits();
        LinkedUnits two = new LinkedUnits();
        for (int which = 0; which < CALLS_OF_THE_FACE; which++) {
            for (int a : EDGES) {
                for (int b : EDGES) {
                    check.same("call " + which + " of " + a + ", " + b, call(one, which, a, b, a), call(two, which, a, b, a));
                }
            }
        }
    }

    private static int call(LinkedUnits x, int which, int a, int b, int c) {
        switch (which) {
            case TOKEN:
                return x.token(a, b) ? 1 : 0;
            case 1:
                return x.unit(a);
            case 2:
                return x.place();
            case 3:
                return x.include(a, b > 3) ? 1 : 0;
            case 4:
                return x.link();
            case 5:
                return x.culprit();
            case 6:
                return x.size();
            case 7:
                return x.at(a);
            case 8:
                return x.parameters(a);
            case 9:
                return x.peek(a);
            case 10:
                return x.poke(a, b) ? 1 : 0;
            case RUN:
                return x.run(a, b, c, a);
            case 12:
                return x.result();
            default:
                return x.steps();
        }
    }
}
