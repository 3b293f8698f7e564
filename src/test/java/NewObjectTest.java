/** Promise 1: what a new object answers. */
public final class NewObjectTest {
    public static void main(String[] args) {
        Check check = new Check();
        nothingIsLinked(check);
        unitsAreEmpty(check);
        draftsAreEmpty(check);
        objectsAreApart(check);
        check.end("NewObjectTest");
    }

    private static void nothingIsLinked(Check check) {
        LinkedUnits x = new LinkedUnits();
        check.same("place", x.place(), -1);
        check.same("culprit", x.culprit(), -1);
        check.same("size", x.size(), 0);
        check.same("result", x.result(), 0);
        check.same("steps", x.steps(), 0);
        for (int name = -1; name <= 12; name++) {
            check.same("at " + name, x.at(name), -1);
            check.same("parameters " + name, x.parameters(name), -1);
            check.same("run " + name, x.run(name, 1, 2, 3), LinkedUnits.BAD);
        }
        for (int place = -1; place <= 48; place++) {
            check.same("peek " + place, x.peek(place), 0);
            check.same("poke " + place, x.poke(place, 5), false);
            check.same("peek after poke " + place, x.peek(place), 0);
        }
        check.same("steps after BAD", x.steps(), 0);
    }

    private static void unitsAreEmpty(Check check) {
        LinkedUnits x = new LinkedUnits();
        check.link(x, "0 1L 2 3L 4", LinkedUnits.OK, -1);
        check.same("size of empty units", x.size(), 0);
        for (int name = 0; name < 12; name++) {
            check.same("at " + name, x.at(name), -1);
            check.same("parameters " + name, x.parameters(name), -1);
        }
    }

    private static void draftsAreEmpty(Check check) {
        LinkedUnits x = new LinkedUnits();
        check.same("the empty draft", x.unit(3), LinkedUnits.OK);
        check.same("place", x.place(), -1);
        check.same("the empty list", x.link(), LinkedUnits.OK);
        for (int i = 0; i < 50; i++) {
            check.same("token " + i, x.token(0, i), true);
        }
        check.same("token 50", x.token(0, 50), false);
    }

    private static void objectsAreApart(Check check) {
        LinkedUnits x = check.linked("DATA:3*2 NUM:9");
        LinkedUnits y = new LinkedUnits();
        check.draft(x, "FUNC:0");
        check.same("size of the other", y.size(), 0);
        check.same("draft of the other", y.unit(0), LinkedUnits.OK);
        check.same("size of the first", x.size(), 2);
    }
}
