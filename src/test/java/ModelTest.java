import java.util.ArrayList;
import java.util.List;

/** All promises: made-up runs of calls, at most 512 on one object, each answer compared with Model. */
public final class ModelTest {
    private static final int OBJECTS = 20000, CALLS = 512, CALLS_AT_ONCE = 80, TOKENS_AT_ONCE = 60;
    private static final int[] EDGES = {Integer.MIN_VALUE, Integer.MAX_VALUE, -1, 0, 1, 2, 31, 32, 33, 47, 48};

    private final Check check = new Check();
    private final int[] answers = new int[16];
    private long state = 20261115;
    private LinkedUnits x;
    private Model model;
    private int calls;
    private int functionNames;
    private int dataNames;
    private boolean isDataHeavy;
    private int weakPercent;
    private List<int[]> tokens;

    public static void main(String[] args) {
        ModelTest test = new ModelTest();
        for (int i = 0; i < OBJECTS; i++) {
            test.object();
        }
        test.everyAnswerWasMet();
        test.check.end("ModelTest");
    }

    // A fixed row of numbers, so that each run of the test is the same.
    private int pick(int bound) {
        state = state * 6364136223846793005L + 1442695040888963407L;
        return (int) ((state >>> 33) % bound);
    }

    private boolean chance(int percent) {
        return pick(100) < percent;
    }

    private void object() {
        x = new LinkedUnits();
        model = new Model();
        calls = 0;
        functionNames = 1 + pick(6);
        dataNames = 1 + pick(6);
        isDataHeavy = chance(15);
        weakPercent = 30 + pick(70);
        while (calls < CALLS - CALLS_AT_ONCE) {
            if (chance(45)) {
                makeUnit(pick(5));
            } else if (chance(50)) {
                listAndLink();
            } else if (chance(60)) {
                runSome();
            } else {
                anyCall();
            }
        }
    }

    private void same(String call, long got, long want) {
        calls++;
        check.same(call, got, want);
    }

    private void same(String call, boolean got, boolean want) {
        same(call, got ? 1L : 0L, want ? 1L : 0L);
    }

    // Few names in one object, so that many are found: FUNCs from 0 on with name % 4 parameters and
    // DATAs from 6 on, mostly.
    private int functionValue(int name) {
        return name + 16 * (chance(96) ? name % 4 : pick(4));
    }

    private int function() {
        return chance(98) ? pick(functionNames) : pick(12);
    }

    private int data() {
        return chance(98) ? 6 + pick(dataNames) : pick(12);
    }

    private void add(int kind, int value) {
        tokens.add(new int[] {kind, value});
    }

    private void makeUnit(int u) {
        tokens = new ArrayList<>();
        int definitions = pick(isDataHeavy ? 7 : 5);
        int rotation = pick(12);
        for (int i = 0; i < definitions; i++) {
            define(chance(97) ? nameFor(rotation + i) : pick(12));
        }
        if (chance(12)) {
            spoil();
        }
        if (tokens.size() > TOKENS_AT_ONCE) {
            tokens = tokens.subList(0, TOKENS_AT_ONCE);
        }
        for (int[] token : tokens) {
            same("token", x.token(token[0], token[1]), model.token(token[0], token[1]));
        }
        int unit = chance(98) ? u : pick(9) - 2;
        int got = x.unit(unit);
        note(got);
        same("unit", got, model.unit(unit));
        same("place", x.place(), model.place());
    }

    private int nameFor(int number) {
        if (isDataHeavy) {
            return 3 + number % 9;
        }
        int name = number % (functionNames + dataNames);
        return name < functionNames ? name : 6 + name - functionNames;
    }

    private void define(int name) {
        if (chance(97) ? name < (isDataHeavy ? 4 : 6) : chance(50)) {
            add(28, functionValue(name) + (chance(weakPercent) ? 64 : 0));
            statements(pick(4), 2);
            add(27, chance(50) ? 0 : pick(100));
        } else {
            int size = isDataHeavy ? 8 - pick(2) : 1 + pick(chance(50) ? 3 : 8);
            add(29, name + 16 * (size - 1) + (chance(weakPercent) ? 128 : 0));
            add(0, number());
        }
    }

    private void spoil() {
        int index = pick(tokens.size() + 1);
        if (chance(40) && index < tokens.size()) {
            tokens.remove(index);
        } else if (chance(50)) {
            tokens.add(index, new int[] {pick(32) - 1, pick(8)});
        } else {
            tokens = new ArrayList<>(tokens.subList(0, index));
        }
    }

    private int number() {
        return chance(75) ? pick(9) - 1 : chance(50) ? EDGES[pick(EDGES.length)] : pick(1 << 30) * 4 + pick(4);
    }

    private void statements(int count, int depth) {
        for (int i = 0; i < count; i++) {
            statement(depth);
        }
    }

    private void statement(int depth) {
        int kind = depth > 0 ? 20 + pick(7) : 20 + 5 * pick(2) + pick(2);
        if (kind == 23) {
            kind = 25;
        }
        add(kind, kind == 20 ? pick(6) : pick(3));
        expression(kind == 21 || kind == 24 ? 1 : 2);
        if (kind == 21) {
            expression(2);
        }
        if (kind == 22 || kind == 24) {
            statements(pick(3), depth - 1);
            if (kind == 22 && chance(50)) {
                add(23, pick(3));
                statements(pick(3), depth - 1);
            }
            add(27, pick(3));
        }
    }

    private void expression(int depth) {
        if (depth == 0 || chance(30)) {
            leaf();
        } else if (chance(30)) {
            int value = functionValue(function());
            add(5, value);
            for (int i = 0; i < value / 16; i++) {
                expression(depth - 1);
            }
        } else {
            int kind = chance(15) ? 4 : 6 + pick(13);
            add(kind, pick(3));
            expression(depth - 1);
            if (kind != 4 && kind != 18) {
                expression(depth - 1);
            }
        }
    }

    private void leaf() {
        int kind = pick(4);
        add(kind, kind == 0 ? number() : kind == 1 ? pick(6) : data());
    }

    private void listAndLink() {
        int count = 1 + pick(6);
        for (int i = 0; i < count; i++) {
            int u = chance(97) ? pick(5) : pick(9) - 2;
            boolean library = chance(40);
            same("include", x.include(u, library), model.include(u, library));
        }
        int got = x.link();
        note(got);
        same("link", got, model.link());
        same("culprit", x.culprit(), model.culprit());
        same("size", x.size(), model.size());
        for (int i = 0; i < 3; i++) {
            int name = pick(14) - 1;
            same("at", x.at(name), model.at(name));
            same("parameters", x.parameters(name), model.parameters(name));
        }
    }

    private void runSome() {
        for (int name = 0; name < 12; name++) {
            if (model.parameters(name) >= 0 || chance(5)) {
                int a = number();
                int b = number();
                int c = number();
                int got = x.run(name, a, b, c);
                note(got);
                same("run", got, model.run(name, a, b, c));
                same("result", x.result(), model.result());
                same("steps", x.steps(), model.steps());
                int place = pick(Math.max(1, model.size()));
                same("peek", x.peek(place), model.peek(place));
            }
        }
    }

    private void anyCall() {
        int place = pick(52) - 2;
        int v = number();
        same("poke", x.poke(place, v), model.poke(place, v));
        same("peek", x.peek(place), model.peek(place));
        same("peek of " + v, x.peek(v), model.peek(v));
        same("at " + v, x.at(v), model.at(v));
        same("parameters " + v, x.parameters(v), model.parameters(v));
        same("run " + v, x.run(v, v, v, v), model.run(v, v, v, v));
        same("result", x.result(), model.result());
        same("steps", x.steps(), model.steps());
        same("place", x.place(), model.place());
        same("culprit", x.culprit(), model.culprit());
    }

    private void note(int answer) {
        answers[answer + 1]++;
    }

    // A test that never comes to a fault would say nothing about it.
    private void everyAnswerWasMet() {
        for (int answer = -1; answer <= 9; answer++) {
            check.same("answer " + answer + " was met often", answers[answer + 1] > 100, true);
        }
    }
}
