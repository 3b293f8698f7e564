import java.util.ArrayList;
import java.util.List;
import java.util.TreeMap;
import java.util.TreeSet;

/** A second program for the document, with trees, lists and recursion, to compare the class with. */
final class Model {
    /** Ends a parse at a token, or a run with a fault. */
    private static final class Stop extends RuntimeException {
        private static final long serialVersionUID = 1L;
        final int reason;

        Stop(int reason) {
            super(null, null, false, false);
            this.reason = reason;
        }
    }

    /** Ends a function. */
    private static final class Give extends RuntimeException {
        private static final long serialVersionUID = 1L;
        final int value;

        Give(int value) {
            super(null, null, false, false);
            this.value = value;
        }
    }

    /** A token with what follows it: its E, its statements and, for an IF, those behind the ELSE. */
    private static final class Node {
        int kind;
        int value;
        int token;
        List<Node> operands = new ArrayList<>();
        List<Node> body = new ArrayList<>();
        List<Node> otherwise = new ArrayList<>();

        int name() {
            return value % 16;
        }

        boolean weak() {
            return kind == 28 ? value / 64 == 1 : value / 128 == 1;
        }

        int count() {
            return value / 16 % 4;
        }

        int words() {
            return value / 16 % 8 + 1;
        }
    }

    private List<int[]> draft = new ArrayList<>();
    private int read;
    private int fault = -1;
    private final List<List<Node>> units = new ArrayList<>();
    private List<int[]> list = new ArrayList<>();
    private int culprit = -1;
    private TreeMap<Integer, Node> functions = new TreeMap<>();
    private TreeMap<Integer, Integer> places = new TreeMap<>();
    private List<Integer> memory = new ArrayList<>();
    private int result;
    private int steps;
    private int depth;

    Model() {
        for (int u = 0; u < 5; u++) {
            units.add(new ArrayList<>());
        }
    }

    boolean token(int kind, int value) {
        int most = kind == 1 || kind == 20 ? 5 : kind == 2 || kind == 3 ? 11 : kind == 5 ? 63 : kind == 28 ? 127 : kind == 29 ? 255 : -1;
        boolean right = most < 0 || (value >= 0 && value <= most && value % 16 < 12);
        if (kind < 0 || kind > 29 || kind == 19 || !right || draft.size() == 50) {
            return false;
        }
        draft.add(new int[] {kind, value});
        return true;
    }

    int unit(int u) {
        if (u < 0 || u > 4) {
            return -1;
        }
        read = 0;
        int answer = 0;
        List<Node> definitions = new ArrayList<>();
        try {
            while (read < draft.size()) {
                definitions.add(definition());
            }
            TreeSet<Integer> names = new TreeSet<>();
            for (Node node : definitions) {
                if (!names.add(node.name())) {
                    answer = 2;
                    fault = node.token;
                    break;
                }
            }
        } catch (Stop stop) {
            answer = 1;
            fault = stop.reason;
        }
        if (answer == 0) {
            units.set(u, definitions);
        }
        draft = new ArrayList<>();
        return answer;
    }

    private int kindAhead() {
        if (read == draft.size()) {
            throw new Stop(read);
        }
        return draft.get(read)[0];
    }

    private Node take() {
        Node node = new Node();
        node.kind = kindAhead();
        node.value = draft.get(read)[1];
        node.token = read;
        read++;
        return node;
    }

    private Node definition() {
        if (kindAhead() != 28 && kindAhead() != 29) {
            throw new Stop(read);
        }
        Node node = take();
        if (node.kind == 28) {
            statements(node.body);
            expect(27);
        } else {
            node.operands.add(expect(0));
        }
        return node;
    }

    private Node expect(int kind) {
        if (kindAhead() != kind) {
            throw new Stop(read);
        }
        return take();
    }

    private void statements(List<Node> into) {
        while (kindAhead() >= 20 && kindAhead() <= 26 && kindAhead() != 23) {
            into.add(statement());
        }
    }

    private Node statement() {
        Node node = take();
        node.operands.add(expression());
        if (node.kind == 21) {
            node.operands.add(expression());
        }
        if (node.kind == 22 || node.kind == 24) {
            statements(node.body);
            if (node.kind == 22 && kindAhead() == 23) {
                take();
                statements(node.otherwise);
            }
            expect(27);
        }
        return node;
    }

    private Node expression() {
        if (kindAhead() > 18) {
            throw new Stop(read);
        }
        Node node = take();
        int count = node.kind < 4 ? 0 : node.kind == 5 ? node.count() : node.kind == 4 || node.kind == 18 ? 1 : 2;
        for (int i = 0; i < count; i++) {
            node.operands.add(expression());
        }
        return node;
    }

    int place() {
        return fault;
    }

    boolean include(int u, boolean library) {
        if (u < 0 || u > 4) {
            return false;
        }
        for (int[] entry : list) {
            if (entry[0] == u) {
                return false;
            }
        }
        list.add(new int[] {u, library ? 1 : 0});
        return true;
    }

    private static void uses(List<Node> nodes, List<Node> into) {
        for (Node node : nodes) {
            if (node.kind == 2 || node.kind == 3 || node.kind == 5) {
                into.add(node);
            }
            uses(node.operands, into);
            uses(node.body, into);
            uses(node.otherwise, into);
        }
    }

    private List<Node> taken() {
        List<Node> definitions = new ArrayList<>();
        for (int[] entry : list) {
            List<Node> unit = units.get(entry[0]);
            TreeSet<Integer> open = new TreeSet<>();
            List<Node> wants = new ArrayList<>();
            uses(definitions, wants);
            for (Node use : wants) {
                open.add(use.name());
            }
            for (Node node : definitions) {
                open.remove(node.name());
            }
            boolean wanted = entry[1] == 0;
            for (Node node : unit) {
                wanted |= open.contains(node.name());
            }
            if (wanted) {
                definitions.addAll(unit);
            }
        }
        return definitions;
    }

    int link() {
        List<Node> definitions = taken();
        list = new ArrayList<>();
        culprit = -1;
        TreeMap<Integer, Node> counting = new TreeMap<>();
        for (int name = 0; name < 12; name++) {
            int strong = 0;
            for (Node node : definitions) {
                if (node.name() == name && !node.weak()) {
                    strong++;
                    counting.put(name, node);
                }
            }
            if (strong > 1) {
                culprit = name;
                return 3;
            }
            for (Node node : definitions) {
                if (node.name() == name) {
                    counting.putIfAbsent(name, node);
                }
            }
        }
        int answer = wants(definitions, counting);
        return answer != 0 ? answer : install(definitions, counting);
    }

    private int wants(List<Node> definitions, TreeMap<Integer, Node> counting) {
        List<Node> wants = new ArrayList<>();
        uses(definitions, wants);
        for (int name = 0; name < 12; name++) {
            for (Node use : wants) {
                if (use.name() == name) {
                    culprit = name;
                    Node node = counting.get(name);
                    if (node == null) {
                        return 4;
                    }
                    if (use.kind == 5 ? node.kind != 28 || node.count() != use.count() : node.kind != 29) {
                        return 5;
                    }
                }
            }
        }
        culprit = -1;
        return 0;
    }

    private int install(List<Node> definitions, TreeMap<Integer, Node> counting) {
        TreeMap<Integer, Node> newFunctions = new TreeMap<>();
        TreeMap<Integer, Integer> newPlaces = new TreeMap<>();
        List<Integer> newMemory = new ArrayList<>();
        for (Node node : definitions) {
            if (counting.get(node.name()) == node) {
                if (node.kind == 28) {
                    newFunctions.put(node.name(), node);
                } else {
                    newPlaces.put(node.name(), newMemory.size());
                    for (int i = 0; i < node.words(); i++) {
                        newMemory.add(node.operands.get(0).value);
                    }
                }
            }
        }
        if (newMemory.size() > 48) {
            return 6;
        }
        functions = newFunctions;
        places = newPlaces;
        memory = newMemory;
        return 0;
    }

    int culprit() {
        return culprit;
    }

    int size() {
        return memory.size();
    }

    int at(int name) {
        return places.getOrDefault(name, -1);
    }

    int parameters(int name) {
        return functions.containsKey(name) ? functions.get(name).count() : -1;
    }

    int peek(int place) {
        return place >= 0 && place < memory.size() ? memory.get(place) : 0;
    }

    boolean poke(int place, int v) {
        if (place < 0 || place >= memory.size()) {
            return false;
        }
        memory.set(place, v);
        return true;
    }

    int run(int name, int a, int b, int c) {
        result = 0;
        if (!functions.containsKey(name)) {
            return -1;
        }
        steps = 0;
        depth = 0;
        try {
            result = call(name, new int[] {a, b, c});
            return 0;
        } catch (Stop stop) {
            return stop.reason;
        }
    }

    private void step() {
        if (steps == 200) {
            throw new Stop(8);
        }
        steps++;
    }

    private int call(int name, int[] arguments) {
        step();
        if (depth == 10) {
            throw new Stop(9);
        }
        depth++;
        Node function = functions.get(name);
        int[] locals = new int[6];
        System.arraycopy(arguments, 0, locals, 0, function.count());
        int value = 0;
        try {
            execute(function.body, locals);
        } catch (Give give) {
            value = give.value;
        }
        depth--;
        return value;
    }

    private void execute(List<Node> statements, int[] locals) {
        for (Node node : statements) {
            Node first = node.operands.get(0);
            if (node.kind == 24) {
                step();
                while (evaluate(first, locals) != 0) {
                    execute(node.body, locals);
                    step();
                }
                continue;
            }
            int value = evaluate(first, locals);
            if (node.kind == 20) {
                locals[node.value] = value;
            } else if (node.kind == 21) {
                int word = evaluate(node.operands.get(1), locals);
                if (!poke(value, word)) {
                    throw new Stop(7);
                }
            } else if (node.kind == 22) {
                execute(value != 0 ? node.body : node.otherwise, locals);
            } else if (node.kind == 25) {
                throw new Give(value);
            }
        }
    }

    private int evaluate(Node node, int[] locals) {
        int[] v = new int[3];
        for (int i = 0; i < node.operands.size(); i++) {
            v[i] = evaluate(node.operands.get(i), locals);
        }
        switch (node.kind) {
            case 0:
                return node.value;
            case 1:
                return locals[node.value];
            case 2:
                return memory.get(places.get(node.value));
            case 3:
                return places.get(node.value);
            case 4:
                if (v[0] < 0 || v[0] >= memory.size()) {
                    throw new Stop(7);
                }
                return memory.get(v[0]);
            case 5:
                return call(node.name(), v);
            default:
                return (int) calculate(node.kind, v[0], v[1]);
        }
    }

    private static long calculate(int kind, long a, long b) {
        switch (kind) {
            case 6:
                return a + b;
            case 7:
                return a - b;
            case 8:
                return a * b;
            case 9:
                return b == 0 ? -1 : a / b;
            case 10:
                return b == 0 ? a : a % b;
            case 11:
                return a & b;
            case 12:
                return a | b;
            case 13:
                return a ^ b;
            case 14:
                return a << (b & 31);
            case 15:
                return a >> (b & 31);
            case 16:
                return a < b ? 1 : 0;
            case 17:
                return a == b ? 1 : 0;
            default:
                return a == 0 ? 1 : 0;
        }
    }

    int result() {
        return result;
    }

    int steps() {
        return steps;
    }
}
