/**
 * A compiler for units of a small language, a linker that takes them together (some only if they
 * are wanted), and a machine that runs functions of the whole.
 *
 * A unit is kept as its checked tokens, each block's beginning and end knowing the other. Linking
 * copies all units, so that later units leave what is linked alone; the machine walks over that
 * copy. A token of unit u has the same index, u * TOKENS and on, among the units and in the copy.
 */
public final class LinkedUnits {
    public static final int OK = 0, SYNTAX = 1, TWICE = 2, DUPLICATE = 3, MISSING = 4, MISMATCH = 5, LARGE = 6, ADDRESS = 7, LONG = 8, DEPTH = 9, BAD = -1;

    private static final int NUM = 0, LOCAL = 1, NAME = 2, AT = 3, GET = 4, CALL = 5;
    private static final int ADD = 6, SUB = 7, MUL = 8, DIV = 9, REM = 10, AND = 11, OR = 12;
    private static final int XOR = 13, SHL = 14, SHR = 15, LESS = 16, SAME = 17, NOT = 18;
    private static final int SET = 20, PUT = 21, IF = 22, ELSE = 23, WHILE = 24, RETURN = 25;
    private static final int DO = 26, END = 27, FUNC = 28, DATA = 29;

    private static final int NAMES = 12, UNITS = 5, TOKENS = 50, LOCALS = 6;
    private static final int WORDS = 48, STEPS = 200, FRAMES = 10;
    private static final int CODE = UNITS * TOKENS;
    // Each function at work holds at most one entry for each token of its unit.
    private static final int STACK = FRAMES * TOKENS;
    private static final int ALL_LOCALS = FRAMES * LOCALS;
    private static final int NONE = -1;
    private static final int RUNNING = -2;
    // Each of the 200 steps leads over at most 50 tokens, each token taken and finished once.
    private static final int TURNS = 1000000;

    private final int[] draftKind = new int[TOKENS];
    private final int[] draftValue = new int[TOKENS];
    private final int[] draftPartner = new int[TOKENS];
    private int draftCount;
    private final int[] openBlock = new int[TOKENS];
    private int openCount;
    private int operandsDue;
    private int faultPlace;

    private final int[] unitKind = new int[CODE];
    private final int[] unitValue = new int[CODE];
    private final int[] unitPartner = new int[CODE];
    private final int[] unitLength = new int[UNITS];

    private final int[] listedUnit = new int[UNITS];
    private final boolean[] listedAsLibrary = new boolean[UNITS];
    private int listCount;

    private final int[] takenUnit = new int[UNITS];
    private int takenCount;
    private final int[] definition = new int[NAMES];
    private final boolean[] isDuplicate = new boolean[NAMES];
    private final boolean[] isWanted = new boolean[NAMES];
    private int culpritName;

    private final int[] codeKind = new int[CODE];
    private final int[] codeValue = new int[CODE];
    private final int[] codePartner = new int[CODE];
    private final int[] functionOf = new int[NAMES];
    private final int[] placeOf = new int[NAMES];
    private final int[] memory = new int[WORDS];
    private int memorySize;

    private final int[] operands = new int[STACK];
    private int operandCount;
    private final int[] pendingToken = new int[STACK];
    private final int[] pendingDue = new int[STACK];
    private int pendingCount;
    private final int[] locals = new int[ALL_LOCALS];
    private final int[] returnTo = new int[FRAMES];
    private int frameCount;
    private int next;
    private int outcome;
    private int lastResult;
    private int stepCount;

    public LinkedUnits() {
        faultPlace = NONE;
        culpritName = NONE;
        clearLinkedNames();
    }

    public boolean token(int kind, int value) {
        if (draftCount >= TOKENS || !isKind(kind) || !isValueFor(kind, value)) {
            return false;
        }
        draftKind[draftCount] = kind;
        draftValue[draftCount] = value;
        draftCount++;
        return true;
    }

    public int unit(int u) {
        if (!isUnit(u)) {
            return BAD;
        }
        int answer = checkDraft();
        if (answer == OK) {
            keepDraft(u);
        }
        draftCount = 0;
        return answer;
    }

    public int place() {
        return faultPlace;
    }

    public boolean include(int u, boolean library) {
        if (!isUnit(u) || isListed(u) || listCount >= UNITS) {
            return false;
        }
        listedUnit[listCount] = u;
        listedAsLibrary[listCount] = library;
        listCount++;
        return true;
    }

    public int link() {
        takeUnits();
        listCount = 0;
        culpritName = NONE;
        int answer = linkFault();
        if (answer == OK) {
            copyUnits();
            linkNames();
        }
        return answer;
    }

    public int culprit() {
        return culpritName;
    }

    public int size() {
        return memorySize;
    }

    public int at(int name) {
        return isName(name) ? placeOf[name] : NONE;
    }

    public int parameters(int name) {
        if (!isName(name) || functionOf[name] == NONE) {
            return NONE;
        }
        return countIn(codeValue[functionOf[name]]);
    }

    public int peek(int place) {
        return isInUse(place) ? memory[place] : 0;
    }

    public boolean poke(int place, int v) {
        if (!isInUse(place)) {
            return false;
        }
        memory[place] = v;
        return true;
    }

    public int run(int name, int a, int b, int c) {
        lastResult = 0;
        if (!isName(name) || functionOf[name] == NONE) {
            return BAD;
        }
        stepCount = 0;
        frameCount = 0;
        pendingCount = 0;
        operands[0] = a;
        operands[1] = b;
        operands[2] = c;
        operandCount = countIn(codeValue[functionOf[name]]);
        next = 0;
        outcome = RUNNING;
        beginFunction(name);
        work();
        return outcome;
    }

    public int result() {
        return lastResult;
    }

    public int steps() {
        return stepCount;
    }

    // Tokens.

    private static boolean isKind(int kind) {
        return (kind >= NUM && kind <= NOT) || (kind >= SET && kind <= DATA);
    }

    private static boolean isValueFor(int kind, int value) {
        switch (kind) {
            case LOCAL:
            case SET:
                return value >= 0 && value < LOCALS;
            case NAME:
            case AT:
                return isName(value);
            case CALL:
                return value >= 0 && value < 64 && nameIn(value) < NAMES;
            case FUNC:
                return value >= 0 && value < 128 && nameIn(value) < NAMES;
            case DATA:
                return value >= 0 && value < 256 && nameIn(value) < NAMES;
            default:
                return true;
        }
    }

    private static boolean isName(int name) {
        return name >= 0 && name < NAMES;
    }

    private static boolean isUnit(int u) {
        return u >= 0 && u < UNITS;
    }

    private static boolean isDefinition(int kind) {
        return kind == FUNC || kind == DATA;
    }

    private static boolean isUse(int kind) {
        return kind == NAME || kind == AT || kind == CALL;
    }

    private static int nameIn(int value) {
        return value & 15;
    }

    // The parameters of a FUNC or the arguments of a CALL.
    private static int countIn(int value) {
        return (value >> 4) & 3;
    }

    private static int sizeIn(int value) {
        return ((value >> 4) & 7) + 1;
    }

    private static boolean isWeak(int kind, int value) {
        return kind == FUNC ? value >= 64 : value >= 128;
    }

    // How many E follow a token; the NUM of a DATA counts as one here.
    private static int operandsOf(int kind, int value) {
        if (kind >= ADD && kind <= SAME) {
            return 2;
        }
        switch (kind) {
            case CALL:
                return countIn(value);
            case PUT:
                return 2;
            case GET:
            case NOT:
            case SET:
            case IF:
            case WHILE:
            case RETURN:
            case DO:
            case DATA:
                return 1;
            default:
                return 0;
        }
    }

    // Compiling.

    private int checkDraft() {
        int fault = syntaxFault();
        if (fault != NONE) {
            faultPlace = fault;
            return SYNTAX;
        }
        fault = secondDefinition();
        if (fault != NONE) {
            faultPlace = fault;
            return TWICE;
        }
        return OK;
    }

    // Whatever tokens have been let through can still become a unit, so the first one that does
    // not fit is the one with which no unit begins.
    private int syntaxFault() {
        openCount = 0;
        operandsDue = 0;
        for (int i = 0; i < draftCount; i++) {
            if (!fits(i)) {
                return i;
            }
            accept(i);
        }
        return operandsDue == 0 && openCount == 0 ? NONE : draftCount;
    }

    private boolean fits(int i) {
        int kind = draftKind[i];
        if (i > 0 && draftKind[i - 1] == DATA) {
            return kind == NUM;
        }
        if (operandsDue > 0) {
            return kind <= NOT;
        }
        if (openCount == 0) {
            return isDefinition(kind);
        }
        if (kind == ELSE) {
            return draftKind[openBlock[openCount - 1]] == IF;
        }
        return kind >= SET && kind <= END;
    }

    private void accept(int i) {
        int kind = draftKind[i];
        if (operandsDue > 0) {
            operandsDue--;
        }
        operandsDue += operandsOf(kind, draftValue[i]);
        if (kind == ELSE || kind == END) {
            closeBlock(i);
        }
        if (kind == FUNC || kind == IF || kind == ELSE || kind == WHILE) {
            openBlock[openCount] = i;
            openCount++;
        }
    }

    // An IF with an ELSE ends at the ELSE, which begins a block of its own.
    private void closeBlock(int i) {
        openCount--;
        int opener = openBlock[openCount];
        draftPartner[opener] = i;
        draftPartner[i] = opener;
    }

    private int secondDefinition() {
        for (int i = 0; i < draftCount; i++) {
            if (isDefinition(draftKind[i]) && isDefinedBefore(i)) {
                return i;
            }
        }
        return NONE;
    }

    private boolean isDefinedBefore(int i) {
        int name = nameIn(draftValue[i]);
        for (int j = 0; j < i; j++) {
            if (isDefinition(draftKind[j]) && nameIn(draftValue[j]) == name) {
                return true;
            }
        }
        return false;
    }

    private void keepDraft(int u) {
        int first = u * TOKENS;
        for (int i = 0; i < draftCount; i++) {
            unitKind[first + i] = draftKind[i];
            unitValue[first + i] = draftValue[i];
            unitPartner[first + i] = first + draftPartner[i];
        }
        unitLength[u] = draftCount;
    }

    // Linking.

    private boolean isListed(int u) {
        for (int i = 0; i < listCount; i++) {
            if (listedUnit[i] == u) {
                return true;
            }
        }
        return false;
    }

    private void takeUnits() {
        takenCount = 0;
        for (int name = 0; name < NAMES; name++) {
            definition[name] = NONE;
            isDuplicate[name] = false;
            isWanted[name] = false;
        }
        for (int i = 0; i < listCount; i++) {
            int u = listedUnit[i];
            if (!listedAsLibrary[i] || isOfUse(u)) {
                takeUnit(u);
            }
        }
    }

    private boolean isOfUse(int u) {
        int first = u * TOKENS;
        for (int t = first; t < first + unitLength[u]; t++) {
            int name = nameIn(unitValue[t]);
            if (isDefinition(unitKind[t]) && isWanted[name] && definition[name] == NONE) {
                return true;
            }
        }
        return false;
    }

    private void takeUnit(int u) {
        takenUnit[takenCount] = u;
        takenCount++;
        int first = u * TOKENS;
        for (int t = first; t < first + unitLength[u]; t++) {
            int kind = unitKind[t];
            if (isDefinition(kind)) {
                addDefinition(t);
            } else if (isUse(kind)) {
                isWanted[nameIn(unitValue[t])] = true;
            }
        }
    }

    private void addDefinition(int t) {
        int name = nameIn(unitValue[t]);
        int before = definition[name];
        if (before == NONE) {
            definition[name] = t;
        } else if (!isWeak(unitKind[t], unitValue[t])) {
            if (!isWeak(unitKind[before], unitValue[before])) {
                isDuplicate[name] = true;
            }
            definition[name] = t;
        }
    }

    private int linkFault() {
        for (int name = 0; name < NAMES; name++) {
            if (isDuplicate[name]) {
                culpritName = name;
                return DUPLICATE;
            }
        }
        for (int name = 0; name < NAMES; name++) {
            int fault = wantFault(name);
            if (fault != OK) {
                culpritName = name;
                return fault;
            }
        }
        return wordsNeeded() > WORDS ? LARGE : OK;
    }

    private int wantFault(int name) {
        if (!isWanted[name]) {
            return OK;
        }
        if (definition[name] == NONE) {
            return MISSING;
        }
        for (int i = 0; i < takenCount; i++) {
            if (wantsWrongly(takenUnit[i], name)) {
                return MISMATCH;
            }
        }
        return OK;
    }

    private boolean wantsWrongly(int u, int name) {
        int first = u * TOKENS;
        for (int t = first; t < first + unitLength[u]; t++) {
            if (isUse(unitKind[t]) && nameIn(unitValue[t]) == name && !suits(t, definition[name])) {
                return true;
            }
        }
        return false;
    }

    private boolean suits(int use, int defining) {
        if (unitKind[use] != CALL) {
            return unitKind[defining] == DATA;
        }
        return unitKind[defining] == FUNC && countIn(unitValue[use]) == countIn(unitValue[defining]);
    }

    private int wordsNeeded() {
        int words = 0;
        for (int name = 0; name < NAMES; name++) {
            int t = definition[name];
            if (t != NONE && unitKind[t] == DATA) {
                words += sizeIn(unitValue[t]);
            }
        }
        return words;
    }

    private void copyUnits() {
        for (int t = 0; t < CODE; t++) {
            codeKind[t] = unitKind[t];
            codeValue[t] = unitValue[t];
            codePartner[t] = unitPartner[t];
        }
    }

    private void linkNames() {
        clearLinkedNames();
        for (int i = 0; i < takenCount; i++) {
            int first = takenUnit[i] * TOKENS;
            for (int t = first; t < first + unitLength[takenUnit[i]]; t++) {
                int name = nameIn(codeValue[t]);
                if (codeKind[t] == FUNC && definition[name] == t) {
                    functionOf[name] = t;
                } else if (codeKind[t] == DATA && definition[name] == t) {
                    placeData(t);
                }
            }
        }
    }

    private void clearLinkedNames() {
        memorySize = 0;
        for (int name = 0; name < NAMES; name++) {
            functionOf[name] = NONE;
            placeOf[name] = NONE;
        }
    }

    private void placeData(int t) {
        placeOf[nameIn(codeValue[t])] = memorySize;
        int size = sizeIn(codeValue[t]);
        for (int i = 0; i < size && memorySize < WORDS; i++) {
            memory[memorySize] = codeValue[t + 1];
            memorySize++;
        }
    }

    // Running. A token that takes operands is pending until they are all worked out.

    private boolean isInUse(int place) {
        return place >= 0 && place < memorySize;
    }

    private void work() {
        for (int turn = 0; turn < TURNS && outcome == RUNNING && next < CODE; turn++) {
            if (pendingCount > 0 && pendingDue[pendingCount - 1] == 0) {
                finishPending();
            } else {
                takeToken();
            }
        }
    }

    private void takeToken() {
        int t = next;
        int value = codeValue[t];
        next++;
        switch (codeKind[t]) {
            case NUM:
                give(value);
                break;
            case LOCAL:
                give(locals[(frameCount - 1) * LOCALS + value]);
                break;
            case NAME:
                getWord(placeOf[value]);
                break;
            case AT:
                give(placeOf[value]);
                break;
            case WHILE:
                if (takeStep()) {
                    pend(t);
                }
                break;
            case ELSE:
                next = codePartner[t] + 1;
                break;
            case END:
                reachEnd(codePartner[t]);
                break;
            default:
                pend(t);
                break;
        }
    }

    private void reachEnd(int opener) {
        if (codeKind[opener] == WHILE) {
            next = opener;
        } else if (codeKind[opener] == FUNC) {
            endFunction(0);
        }
    }

    private void pend(int t) {
        if (pendingCount < STACK) {
            pendingToken[pendingCount] = t;
            pendingDue[pendingCount] = operandsOf(codeKind[t], codeValue[t]);
            pendingCount++;
        }
    }

    private void give(int v) {
        if (operandCount < STACK && pendingCount > 0) {
            operands[operandCount] = v;
            operandCount++;
            pendingDue[pendingCount - 1]--;
        }
    }

    private int takeOperand() {
        if (operandCount == 0) {
            return 0;
        }
        operandCount--;
        return operands[operandCount];
    }

    private void finishPending() {
        pendingCount--;
        int t = pendingToken[pendingCount];
        int kind = codeKind[t];
        if (kind == CALL) {
            int name = nameIn(codeValue[t]);
            beginFunction(name);
        } else if (kind <= NOT) {
            finishExpression(kind);
        } else {
            finishStatement(t);
        }
    }

    private void finishExpression(int kind) {
        int last = takeOperand();
        if (kind == NOT) {
            give(last == 0 ? 1 : 0);
        } else if (kind == GET) {
            getWord(last);
        } else {
            int first = takeOperand();
            int v = kind <= REM ? calculate(kind, first, last) : combine(kind, first, last);
            give(v);
        }
    }

    private void getWord(int place) {
        if (isInUse(place)) {
            give(memory[place]);
        } else {
            outcome = ADDRESS;
        }
    }

    // Java's own division already wraps -2147483648 by -1 as the document asks.
    private static int calculate(int kind, int a, int b) {
        switch (kind) {
            case ADD:
                return a + b;
            case SUB:
                return a - b;
            case MUL:
                return a * b;
            case DIV:
                return b == 0 ? -1 : a / b;
            default:
                return b == 0 ? a : a % b;
        }
    }

    private static int combine(int kind, int a, int b) {
        switch (kind) {
            case AND:
                return a & b;
            case OR:
                return a | b;
            case XOR:
                return a ^ b;
            case SHL:
                return a << (b & 31);
            case SHR:
                return a >> (b & 31);
            case LESS:
                return a < b ? 1 : 0;
            default:
                return a == b ? 1 : 0;
        }
    }

    private void finishStatement(int t) {
        int last = takeOperand();
        switch (codeKind[t]) {
            case SET:
                locals[(frameCount - 1) * LOCALS + codeValue[t]] = last;
                break;
            case PUT:
                putWord(last);
                break;
            case IF:
            case WHILE:
                if (last == 0) {
                    next = codePartner[t] + 1;
                }
                break;
            case RETURN:
                endFunction(last);
                break;
            default:
                break;
        }
    }

    private void putWord(int v) {
        int place = takeOperand();
        if (isInUse(place)) {
            memory[place] = v;
        } else {
            outcome = ADDRESS;
        }
    }

    private boolean takeStep() {
        if (stepCount == STEPS) {
            outcome = LONG;
            return false;
        }
        stepCount++;
        return true;
    }

    // The arguments are the latest operands, the last one on top.
    private void beginFunction(int name) {
        if (!takeStep()) {
            return;
        }
        if (frameCount == FRAMES) {
            outcome = DEPTH;
            return;
        }
        int count = countIn(codeValue[functionOf[name]]);
        int firstLocal = frameCount * LOCALS;
        for (int i = LOCALS - 1; i >= 0; i--) {
            locals[firstLocal + i] = i < count ? takeOperand() : 0;
        }
        returnTo[frameCount] = next;
        frameCount++;
        next = functionOf[name] + 1;
    }

    private void endFunction(int v) {
        frameCount--;
        next = returnTo[frameCount];
        if (frameCount == 0) {
            lastResult = v;
            outcome = OK;
        } else {
            give(v);
        }
    }
}
