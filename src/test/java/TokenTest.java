/** Promise 2: which tokens are taken into the draft. */
public final class TokenTest {
    private static final int[] WILD = {Integer.MIN_VALUE, -256, -17, -16, -2, 256, 1000, 65536, Integer.MAX_VALUE};

    public static void main(String[] args) {
        Check check = new Check();
        kinds(check);
        values(check);
        fiftyTokens(check);
        refusedTokensLeaveTheDraft(check);
        check.end("TokenTest");
    }

    private static void ask(Check check, int kind, int value, boolean due) {
        LinkedUnits x = new LinkedUnits();
        check.same("token(" + kind + ", " + value + ")", x.token(kind, value), due);
    }

    private static void kinds(Check check) {
        for (int kind = -3; kind <= 33; kind++) {
            ask(check, kind, 0, kind >= 0 && kind <= 29 && kind != 19);
        }
        ask(check, Integer.MIN_VALUE, 0, false);
        ask(check, Integer.MAX_VALUE, 0, false);
    }

    private static boolean isDue(int kind, int value) {
        switch (kind) {
            case 1:
            case 20:
                return value >= 0 && value <= 5;
            case 2:
            case 3:
                return value >= 0 && value <= 11;
            case 5:
                return value >= 0 && value <= 63 && value % 16 <= 11;
            case 28:
                return value >= 0 && value <= 127 && value % 16 <= 11;
            case 29:
                return value >= 0 && value <= 255 && value % 16 <= 11;
            default:
                return true;
        }
    }

    private static void values(Check check) {
        for (int kind = 0; kind <= 29; kind++) {
            if (kind != 19) {
                for (int value = -20; value <= 300; value++) {
                    ask(check, kind, value, isDue(kind, value));
                }
                for (int value : WILD) {
                    ask(check, kind, value, isDue(kind, value));
                }
            }
        }
    }

    private static void fiftyTokens(Check check) {
        LinkedUnits x = new LinkedUnits();
        check.draft(x, "FUNC:0");
        for (int i = 0; i < 24; i++) {
            check.draft(x, "DO NUM:1");
        }
        check.draft(x, "END");
        check.same("the 51st token", x.token(27, 0), false);
        check.same("a unit of 50 tokens", x.unit(0), LinkedUnits.OK);
        check.same("a token after that", x.token(27, 0), true);
    }

    private static void refusedTokensLeaveTheDraft(Check check) {
        LinkedUnits x = new LinkedUnits();
        check.same("kind 19", x.token(19, 0), false);
        check.draft(x, "FUNC:0/1");
        check.same("LOCAL 6", x.token(1, 6), false);
        check.draft(x, "RETURN");
        check.same("NAME 12", x.token(2, 12), false);
        check.draft(x, "LOCAL:0 END");
        check.same("unit", x.unit(0), LinkedUnits.OK);
        check.link(x, "0", LinkedUnits.OK, -1);
        check.run(x, 77, 1, 1, LinkedUnits.OK, 77, 1);
    }
}
