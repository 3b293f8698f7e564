/** Counts wrong answers and drafts units from readable text. */
final class Check {
    private static final String[] KINDS = {
        "NUM", "LOCAL", "NAME", "AT", "GET", "CALL", "ADD", "SUB", "MUL", "DIV", "REM", "AND", "OR",
        "XOR", "SHL", "SHR", "LESS", "SAME", "NOT", "?", "SET", "PUT", "IF", "ELSE", "WHILE",
        "RETURN", "DO", "END", "FUNC", "DATA"};

    private int wrong = 0;
    private int asked = 0;
    private String sentence = "";

    /** Names the sentence of the document that the next answers are due to. */
    void sentence(String words) {
        sentence = " (" + words + ")";
    }

    void same(String what, long got, long want) {
        asked++;
        if (got != want) {
            wrong++;
            System.out.println(what + " answered " + got + ", due is " + want + sentence);
        }
    }

    void same(String what, boolean got, boolean want) {
        same(what, got ? 1L : 0L, want ? 1L : 0L);
    }

    /** Prints the count and ends the program with 1 if an answer was wrong. */
    void end(String test) {
        System.out.println(test + ": " + asked + " answers, " + wrong + " wrong");
        if (wrong != 0) {
            System.exit(1);
        }
    }

    static int kind(String word) {
        for (int i = 0; i < KINDS.length; i++) {
            if (KINDS[i].equals(word)) {
                return i;
            }
        }
        throw new IllegalArgumentException(word);
    }

    /**
     * Drafts tokens from words such as FUNC:0/2 (name 0, two parameters), CALL:0/2, DATA:6*3 (name
     * 6, three words), each with a w behind it if weak; NUM:-5, LOCAL:1, SET:1, NAME:6, AT:6; ADD.
     */
    void draft(LinkedUnits x, String text) {
        for (String word : text.trim().split("\\s+")) {
            if (!word.isEmpty()) {
                String[] parts = word.split(":");
                int kind = kind(parts[0]);
                int value = parts.length < 2 ? 0 : value(kind, parts[1]);
                same("token " + word, x.token(kind, value), true);
            }
        }
    }

    private static int value(int kind, String text) {
        boolean weak = text.endsWith("w");
        String[] numbers = (weak ? text.substring(0, text.length() - 1) : text).split("[/*]");
        int value = Integer.parseInt(numbers[0]);
        if (kind == kind("DATA")) {
            int size = numbers.length < 2 ? 1 : Integer.parseInt(numbers[1]);
            return value + 16 * (size - 1) + (weak ? 128 : 0);
        }
        if (numbers.length > 1) {
            value += 16 * Integer.parseInt(numbers[1]);
        }
        return value + (weak ? 64 : 0);
    }

    /** Drafts a unit and asks that it is taken. */
    void unit(LinkedUnits x, int u, String text) {
        draft(x, text);
        same("unit(" + u + ") of " + text, x.unit(u), LinkedUnits.OK);
    }

    /** Drafts tokens and asks that they are refused with this answer at this place. */
    void refused(LinkedUnits x, int answer, int place, String text) {
        draft(x, text);
        same("unit(0) of " + text, x.unit(0), answer);
        same("place() of " + text, x.place(), place);
    }

    /** The same on a new object. */
    void refusedAlone(int answer, int place, String text) {
        refused(new LinkedUnits(), answer, place, text);
    }

    /** Lists units from words such as 0 (plain) and 1L (library), links, and asks for the answer. */
    void link(LinkedUnits x, String list, int answer, int culprit) {
        for (String word : list.trim().split("\\s+")) {
            if (!word.isEmpty()) {
                boolean library = word.endsWith("L");
                int u = Integer.parseInt(library ? word.substring(0, word.length() - 1) : word);
                same("include " + word, x.include(u, library), true);
            }
        }
        same("link() of " + list, x.link(), answer);
        same("culprit() of " + list, x.culprit(), culprit);
    }

    /** A new object with units 0, 1, .. of these texts. */
    LinkedUnits units(String... texts) {
        LinkedUnits x = new LinkedUnits();
        for (int u = 0; u < texts.length; u++) {
            unit(x, u, texts[u]);
        }
        return x;
    }

    /** A new object with the one unit of this text linked. */
    LinkedUnits linked(String text) {
        LinkedUnits x = units(text);
        link(x, "0", LinkedUnits.OK, -1);
        return x;
    }

    /** All that can be seen without a change: some 80 of the 512 calls that an object is good for. */
    static String seen(LinkedUnits x) {
        StringBuilder text = new StringBuilder("place " + x.place() + " culprit " + x.culprit()
            + " size " + x.size() + " result " + x.result() + " steps " + x.steps() + " names");
        for (int name = 0; name < 12; name++) {
            text.append(" ").append(x.at(name)).append("/").append(x.parameters(name));
        }
        text.append(" words");
        for (int place = 0; place < 48; place++) {
            text.append(" ").append(x.peek(place));
        }
        return text.toString();
    }

    /** Asks that calls show what they showed before. */
    void unchanged(String what, LinkedUnits x, String before) {
        String now = seen(x);
        same(what + " leaves [" + before + "], not [" + now + "]:", now.equals(before), true);
    }

    /** Runs function 0 and asks for the answer, the result and the steps. */
    void run(LinkedUnits x, int a, int b, int c, int answer, int result, int steps) {
        runOf(x, 0, new int[] {a, b, c}, answer, result, steps);
    }

    void runOf(LinkedUnits x, int name, int[] arguments, int answer, int result, int steps) {
        int got = x.run(name, arguments[0], arguments[1], arguments[2]);
        String what = "run(" + name + ", " + arguments[0] + ", " + arguments[1] + ", " + arguments[2] + ")";
        same(what, got, answer);
        same("result() after " + what, x.result(), result);
        same("steps() after " + what, x.steps(), steps);
    }
}
