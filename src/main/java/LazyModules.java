/**
 * A lazy language of functions over a small range of arguments, loaded in modules and reloaded while it is in use.
 *
 * <p>An outcome depends on nothing but a node and an argument, and there are at most 120 loaded nodes and 6
 * arguments. So all outcomes are found as soon as a module is loaded, and every question only reads them.
 */
public final class LazyModules {
    public static final int REFUSED = 0, DONE = 1, LOOP = 2, DIVIDE = 3, RANGE = 4, EMPTY = 5;
    public static final int INT = 1, BOOL = 2, LIST = 3;
    public static final int OK = 1, SCAN = 2, SYNTAX = 3, DOUBLE = 4, LARGE = 5, DEEP = 6, UNKNOWN = 7, CLASH = 8;

    private static final int FUNCTIONS = 5;
    private static final int NARROWEST = 2;
    private static final int WIDEST = 6;
    private static final int TEXT_LIMIT = 200;
    private static final int DIGIT_LIMIT = 9;
    private static final int LONGEST_WORD = 4;
    private static final int NODE_LIMIT = 24;
    private static final int LINK_LIMIT = 3;
    private static final int DEPTH_LIMIT = 8;
    private static final int LAST_ITEM = 31;
    private static final int LONGEST_LIST = 40;
    private static final int SLOTS = 3;
    private static final int STEP_LIMIT = 60;
    private static final int FREE = -1;

    /** Nodes below this index belong to the loaded functions, NODE_LIMIT to each; the others to the text being read. */
    private static final int LOADED = FUNCTIONS * NODE_LIMIT;
    private static final int NODES = LOADED + TEXT_LIMIT;
    private static final int PARTS = 3;
    private static final int PART_ENTRIES = NODES * PARTS;
    private static final int CELLS = LOADED * WIDEST;

    /** The ways to give each of the five functions one of the three kinds. */
    private static final int CHOICES = 243;
    private static final int KINDS = 3;

    /** Greater than every place, so that it loses wherever the least place is sought. */
    private static final int NO_PLACE = TEXT_LIMIT + 1;

    // A token's code is its character; that of a word is its letters, 8 bits each, so that no table is needed.
    private static final int NO_TOKEN = 0;
    private static final int X = 'x';
    private static final int IF = 'i' << 8 | 'f';
    private static final int THEN = 't' << 24 | 'h' << 16 | 'e' << 8 | 'n';
    private static final int ELSE = 'e' << 24 | 'l' << 16 | 's' << 8 | 'e';
    private static final int TRY = 't' << 16 | 'r' << 8 | 'y';
    private static final int HD = 'h' << 8 | 'd';
    private static final int TL = 't' << 8 | 'l';
    private static final int NUL = 'n' << 16 | 'u' << 8 | 'l';
    private static final int NIL = 'n' << 16 | 'i' << 8 | 'l';
    private static final int YES = 'y' << 16 | 'e' << 8 | 's';
    private static final int NO = 'n' << 8 | 'o';

    // Codes that no single character stands for; they lie below the first character.
    private static final int NUMBER = 1;
    private static final int NEGATE = 2;
    private static final int CALL = 3;
    private static final int BODY = 4;
    private static final int THEN_PART = 5;
    private static final int ELSE_PART = 6;
    private static final int RESCUE_PART = 7;

    // What the parser waits for.
    private static final int STUCK = 0;
    private static final int AT_DEF = 1;
    private static final int AT_EQUALS = 2;
    private static final int AT_EXPR = 3;
    private static final int AT_UNARY = 4;
    private static final int AT_BRACKET = 5;
    private static final int AFTER_OPERAND = 6;

    // How tightly a waiting frame holds the operand at its right.
    private static final int OPENER_LEVEL = 0;
    private static final int TAIL_LEVEL = 1;
    private static final int OR_LEVEL = 2;
    private static final int AND_LEVEL = 3;
    private static final int COMPARE_LEVEL = 4;
    private static final int SUM_LEVEL = 5;
    private static final int TERM_LEVEL = 6;
    private static final int UNARY_LEVEL = 7;

    private final int width;
    private final int[] text = new int[TEXT_LIMIT];
    private int textLength = 0;
    private int foundPlace = -1;

    private final int[] tokenCode = new int[TEXT_LIMIT];
    private final int[] tokenPlace = new int[TEXT_LIMIT];
    private int tokenCount = 0;

    private final int[] frameCode = new int[TEXT_LIMIT];
    private final int[] framePlace = new int[TEXT_LIMIT];
    private int frameCount = 0;
    private final int[] operand = new int[TEXT_LIMIT];
    private int operandCount = 0;

    private final int[] defPlace = new int[TEXT_LIMIT];
    private final int[] defFirst = new int[TEXT_LIMIT];
    private final int[] defEnd = new int[TEXT_LIMIT];
    private int defCount = 0;

    private final int[] nodeOp = new int[NODES];
    private final int[] nodeNumber = new int[NODES];
    private final int[] nodePlace = new int[NODES];
    private final int[] nodeDepth = new int[NODES];
    private final int[] nodeKind = new int[NODES];
    private final int[] part = new int[PART_ENTRIES];
    private int nodeEnd = LOADED;

    /** How many nodes a loaded function has; 0 if it is not defined. The last one is the whole expression. */
    private final int[] size = new int[FUNCTIONS];
    private final int[] kindFound = new int[FUNCTIONS];
    private final int[] choice = new int[FUNCTIONS];

    private final int[] status = new int[CELLS];
    /** A list with two parts is held as 1 more than the cell of its ':', the empty list as 0; yes is 1 and no 0. */
    private final long[] result = new long[CELLS];

    private final int[] slotFunction = new int[SLOTS];
    private final int[] slotArgument = new int[SLOTS];

    public LazyModules(int width) {
        this.width = width < NARROWEST ? NARROWEST : width > WIDEST ? WIDEST : width;
        for (int slot = 0; slot < SLOTS; slot++) {
            slotFunction[slot] = FREE;
        }
    }

    public boolean put(int c) {
        if (textLength >= TEXT_LIMIT || c < 32 || c > 126) {
            return false;
        }
        text[textLength] = c;
        textLength++;
        return true;
    }

    public int wipe() {
        int held = textLength;
        textLength = 0;
        return held;
    }

    public int load() {
        int finding = cutTokens();
        if (finding == OK) {
            finding = parse();
        }
        if (finding == OK) {
            finding = checkDefs();
        }
        if (finding == OK) {
            finding = checkCalls();
        }
        if (finding == OK) {
            finding = checkKinds();
        }
        if (finding == OK) {
            install();
            findKinds();
            findOutcomes();
            textLength = 0;
            foundPlace = -1;
        }
        return finding;
    }

    public int place() {
        return foundPlace;
    }

    public int kind(int f) {
        return isDefined(f) ? kindFound[f] : 0;
    }

    public boolean unload(int f) {
        if (!isDefined(f) || isCalledByAnother(f)) {
            return false;
        }
        for (int slot = 0; slot < SLOTS; slot++) {
            if (slotFunction[slot] == f) {
                return false;
            }
        }
        size[f] = 0;
        // No other cell rests on f, but f's demands may have bound the kind of a function that f called.
        findKinds();
        return true;
    }

    public int look(int f, int x) {
        if (!isCell(f, x)) {
            return REFUSED;
        }
        return status[cellOf(f, x)];
    }

    public long value(int f, int x) {
        if (!isCell(f, x)) {
            return 0;
        }
        int cell = cellOf(f, x);
        if (status[cell] != DONE) {
            return 0;
        }
        if (kindFound[f] == LIST) {
            return result[cell] == 0 ? 0 : 1;
        }
        return result[cell];
    }

    public int item(int f, int x, int k) {
        if (!isListCell(f, x) || k < 0 || k > LAST_ITEM) {
            return REFUSED;
        }
        int cell = passParts(f, x, k);
        if (status[cell] != DONE) {
            return status[cell];
        }
        if (result[cell] == 0) {
            return EMPTY;
        }
        return status[partOfList(cell, 0)];
    }

    public long itemValue(int f, int x, int k) {
        if (item(f, x, k) != DONE) {
            return 0;
        }
        int cell = passParts(f, x, k);
        return result[partOfList(cell, 0)];
    }

    public int length(int f, int x) {
        if (!isListCell(f, x)) {
            return -2;
        }
        int cell = cellOf(f, x);
        for (int passed = 0; passed <= LONGEST_LIST; passed++) {
            if (status[cell] != DONE) {
                return -1;
            }
            if (result[cell] == 0) {
                return passed;
            }
            cell = partOfList(cell, 1);
        }
        return -1;
    }

    public boolean ask(int slot, int f, int x) {
        if (slot < 0 || slot >= SLOTS || slotFunction[slot] != FREE || !isCell(f, x)) {
            return false;
        }
        slotFunction[slot] = f;
        slotArgument[slot] = x;
        return true;
    }

    /** Every outcome is known since the latest load, so nothing is left to be done ahead. */
    public boolean work(int slot, int steps) {
        return isTaken(slot) && steps >= 1 && steps <= STEP_LIMIT;
    }

    public int answer(int slot) {
        if (!isTaken(slot)) {
            return REFUSED;
        }
        int outcome = look(slotFunction[slot], slotArgument[slot]);
        slotFunction[slot] = FREE;
        return outcome;
    }

    public boolean cancel(int slot) {
        if (!isTaken(slot)) {
            return false;
        }
        slotFunction[slot] = FREE;
        return true;
    }

    public int pending(int slot) {
        return isTaken(slot) ? slotFunction[slot] * 8 + slotArgument[slot] : -1;
    }

    // ---- Questions about functions, cells, lists and slots ----

    private boolean isDefined(int f) {
        return f >= 0 && f < FUNCTIONS && size[f] > 0;
    }

    private boolean isCell(int f, int x) {
        return isDefined(f) && x >= 0 && x < width;
    }

    private boolean isListCell(int f, int x) {
        return isCell(f, x) && kindFound[f] == LIST;
    }

    private boolean isTaken(int slot) {
        return slot >= 0 && slot < SLOTS && slotFunction[slot] != FREE;
    }

    /** The cell of a function that is defined. */
    private int cellOf(int f, int x) {
        return (f * NODE_LIMIT + size[f] - 1) * WIDEST + x;
    }

    /**
     * The cell of the first (0) or second (1) part of the list with two parts that stands in a cell. Only cells of kind
     * LIST come here, and load() has seen to it that such a cell holds nothing but what a ':' gave.
     */
    private int partOfList(int cell, int which) {
        int link = (int) (result[cell] - 1);
        return part[link / WIDEST * PARTS + which] * WIDEST + link % WIDEST;
    }

    /** The cell reached by k second parts, or the one before that has no second part. */
    private int passParts(int f, int x, int k) {
        int cell = cellOf(f, x);
        for (int passed = 0; passed < k && status[cell] == DONE && result[cell] != 0; passed++) {
            cell = partOfList(cell, 1);
        }
        return cell;
    }

    private boolean isCalledByAnother(int f) {
        for (int g = 0; g < FUNCTIONS; g++) {
            for (int n = 0; n < size[g] && g != f; n++) {
                int node = g * NODE_LIMIT + n;
                if (nodeOp[node] == CALL && nodeNumber[node] == f) {
                    return true;
                }
            }
        }
        return false;
    }

    // ---- Cutting the text into tokens ----

    private int report(int finding, int place) {
        foundPlace = place;
        return finding;
    }

    private int cutTokens() {
        tokenCount = 0;
        int next = 0;
        for (int at = 0; at < textLength; at++) {
            if (at < next || text[at] == ' ') {
                continue;
            }
            next = endOfRun(at);
            int code = codeOfToken(at, next);
            if (code == NO_TOKEN) {
                return report(SCAN, at);
            }
            tokenCode[tokenCount] = code;
            tokenPlace[tokenCount] = at;
            tokenCount++;
        }
        return OK;
    }

    private int endOfRun(int at) {
        int end = at + 1;
        if (isDigit(text[at])) {
            while (end < textLength && isDigit(text[end])) {
                end++;
            }
        } else if (isSmall(text[at])) {
            while (end < textLength && isSmall(text[end])) {
                end++;
            }
        }
        return end;
    }

    private static boolean isDigit(int c) {
        return c >= '0' && c <= '9';
    }

    private static boolean isSmall(int c) {
        return c >= 'a' && c <= 'z';
    }

    private int codeOfToken(int at, int end) {
        int c = text[at];
        if (isDigit(c)) {
            return end - at <= DIGIT_LIMIT ? NUMBER : NO_TOKEN;
        }
        if (isSmall(c)) {
            return codeOfWord(at, end);
        }
        if (c >= 'A' && c < 'A' + FUNCTIONS) {
            return c;
        }
        switch (c) {
            case '+': case '-': case '*': case '/': case '%': case '<': case '=':
            case '&': case '|': case '!': case ':': case ';': case '(': case ')':
                return c;
            default:
                return NO_TOKEN;
        }
    }

    private int codeOfWord(int at, int end) {
        if (end - at > LONGEST_WORD) {
            return NO_TOKEN;
        }
        int code = 0;
        for (int i = at; i < end; i++) {
            code = code << 8 | text[i];
        }
        switch (code) {
            case X: case IF: case THEN: case ELSE: case TRY: case HD: case TL: case NUL: case NIL: case YES: case NO:
                return code;
            default:
                return NO_TOKEN;
        }
    }

    // ---- Parsing: frames wait for operands, and each node is added after its parts ----
    // A token opens at most one frame and stands for at most one node, so the counts never pass TEXT_LIMIT.

    private int parse() {
        nodeEnd = LOADED;
        defCount = 0;
        frameCount = 0;
        operandCount = 0;
        int state = AT_DEF;
        for (int t = 0; t < tokenCount; t++) {
            int code = tokenCode[t];
            int place = tokenPlace[t];
            switch (state) {
                case AT_DEF:
                    state = startDef(code, place);
                    break;
                case AT_EQUALS:
                    state = openFrame(BODY, place, code == '=' ? AT_EXPR : STUCK);
                    break;
                case AT_EXPR:
                    state = code == IF || code == TRY ? openFrame(code, place, AT_EXPR) : startUnary(code, place);
                    break;
                case AT_UNARY:
                    state = startUnary(code, place);
                    break;
                case AT_BRACKET:
                    state = code == '(' ? AT_EXPR : STUCK;
                    break;
                default:
                    state = goOn(code, place);
                    break;
            }
            if (state == STUCK) {
                return report(SYNTAX, place);
            }
        }
        boolean whole = state == AT_DEF && defCount > 0;
        return whole ? OK : report(SYNTAX, textLength);
    }

    private int startDef(int code, int place) {
        if (code < 'A' || code >= 'A' + FUNCTIONS) {
            return STUCK;
        }
        defPlace[defCount] = place;
        defFirst[defCount] = nodeEnd;
        return AT_EQUALS;
    }

    private int openFrame(int code, int place, int state) {
        frameCode[frameCount] = code;
        framePlace[frameCount] = place;
        frameCount++;
        return state;
    }

    private int startUnary(int code, int place) {
        switch (code) {
            case NUMBER: case X: case NIL: case YES: case NO:
                addNode(code, place, 0);
                return AFTER_OPERAND;
            case '-':
                return openFrame(NEGATE, place, AT_UNARY);
            case '!':
                return openFrame(code, place, AT_UNARY);
            case '(':
                return openFrame(code, place, AT_EXPR);
            case HD: case TL: case NUL:
                return openFrame(code, place, AT_BRACKET);
            case 'A': case 'B': case 'C': case 'D': case 'E':
                return openFrame(CALL, place, AT_BRACKET);
            default:
                return STUCK;
        }
    }

    private int goOn(int code, int place) {
        if (code == ':') {
            // Its left side is a whole 'or', but it waits more loosely than that, which groups it to the right.
            closeFrames(OR_LEVEL);
            return openFrame(code, place, AT_EXPR);
        }
        int level = levelOf(code);
        if (level >= OR_LEVEL && level <= TERM_LEVEL) {
            closeFrames(level);
            return openFrame(code, place, AT_UNARY);
        }
        closeFrames(TAIL_LEVEL);
        return closeOpener(code);
    }

    private static int levelOf(int code) {
        switch (code) {
            case ELSE_PART: case RESCUE_PART: case ':':
                return TAIL_LEVEL;
            case '|':
                return OR_LEVEL;
            case '&':
                return AND_LEVEL;
            case '<': case '=':
                return COMPARE_LEVEL;
            case '+': case '-':
                return SUM_LEVEL;
            case '*': case '/': case '%':
                return TERM_LEVEL;
            case NEGATE: case '!':
                return UNARY_LEVEL;
            default:
                return OPENER_LEVEL;
        }
    }

    private void closeFrames(int level) {
        for (int top = frameCount - 1; top >= 0; top--) {
            int code = frameCode[top];
            int held = levelOf(code);
            if (held < level) {
                return;
            }
            frameCount = top;
            if (code == ELSE_PART) {
                addNode(IF, framePlace[top], 3);
            } else if (code == RESCUE_PART) {
                addNode(TRY, framePlace[top], 2);
            } else {
                addNode(code, framePlace[top], held == UNARY_LEVEL ? 1 : 2);
            }
        }
    }

    /** The innermost opener is on top now, and there is one: the body of the def lies below everything. */
    private int closeOpener(int code) {
        int top = frameCount - 1;
        int opener = frameCode[top];
        switch (opener) {
            case BODY:
                return code == ';' ? endDef() : STUCK;
            case IF:
                frameCode[top] = THEN_PART;
                return code == THEN ? AT_EXPR : STUCK;
            case THEN_PART:
                frameCode[top] = ELSE_PART;
                return code == ELSE ? AT_EXPR : STUCK;
            case TRY:
                frameCode[top] = RESCUE_PART;
                return code == ELSE ? AT_EXPR : STUCK;
            default:
                break;
        }
        if (code != ')') {
            return STUCK;
        }
        frameCount = top;
        if (opener != '(') {
            addNode(opener, framePlace[top], 1);
        }
        return AFTER_OPERAND;
    }

    private int endDef() {
        frameCount = 0;
        operandCount = 0;
        defEnd[defCount] = nodeEnd;
        defCount++;
        return AT_DEF;
    }

    /** Takes its parts from the operands. A part that isn't there is the node itself, so that every index is sound. */
    private void addNode(int op, int place, int parts) {
        int node = nodeEnd;
        nodeEnd++;
        operandCount -= parts;
        int deepest = 0;
        for (int i = 0; i < PARTS; i++) {
            int below = i < parts ? operand[operandCount + i] : node;
            part[node * PARTS + i] = below;
            if (i < parts && nodeDepth[below] > deepest) {
                deepest = nodeDepth[below];
            }
        }
        nodeOp[node] = op;
        nodePlace[node] = place;
        nodeDepth[node] = deepest + 1;
        nodeNumber[node] = op == CALL ? text[place] - 'A' : numberAt(place);
        operand[operandCount] = node;
        operandCount++;
    }

    /** 0 where no digit stands. */
    private int numberAt(int place) {
        int number = 0;
        for (int i = place; i < textLength && text[i] >= '0' && text[i] <= '9'; i++) {
            number = number * 10 + text[i] - '0';
        }
        return number;
    }

    // ---- Checking the module that was parsed ----

    private int functionOfDef(int def) {
        return text[defPlace[def]] - 'A';
    }

    private int checkDefs() {
        int seen = 0;
        for (int def = 0; def < defCount; def++) {
            int bit = 1 << functionOfDef(def);
            if ((seen & bit) != 0) {
                return report(DOUBLE, defPlace[def]);
            }
            seen |= bit;
            if (isLarge(defFirst[def], defEnd[def])) {
                return report(LARGE, defPlace[def]);
            }
            if (nodeDepth[defEnd[def] - 1] > DEPTH_LIMIT) {
                return report(DEEP, defPlace[def]);
            }
        }
        return OK;
    }

    private boolean isLarge(int first, int end) {
        int links = 0;
        for (int node = first; node < end; node++) {
            if (nodeOp[node] == ':') {
                links++;
            }
        }
        return end - first > NODE_LIMIT || links > LINK_LIMIT;
    }

    /** One bit for each function that the text defines. */
    private int namesOfText() {
        int names = 0;
        for (int def = 0; def < defCount; def++) {
            names |= 1 << functionOfDef(def);
        }
        return names;
    }

    private int checkCalls() {
        int names = namesOfText();
        int first = NO_PLACE;
        for (int node = LOADED; node < nodeEnd; node++) {
            if (nodeOp[node] == CALL && nodePlace[node] < first) {
                int f = nodeNumber[node];
                if ((names >> f & 1) == 0 && size[f] == 0) {
                    first = nodePlace[node];
                }
            }
        }
        return first == NO_PLACE ? OK : report(UNKNOWN, first);
    }

    /** The text clashes at p where the choice that gets furthest through it fails. */
    private int checkKinds() {
        int names = namesOfText();
        int furthest = 0;
        for (int c = 0; c < CHOICES; c++) {
            choose(c);
            if (loadedAgree(names)) {
                int reached = leastClashOfText();
                furthest = reached > furthest ? reached : furthest;
            }
        }
        return furthest == NO_PLACE ? OK : report(CLASH, furthest);
    }

    private void choose(int number) {
        int rest = number;
        for (int f = 0; f < FUNCTIONS; f++) {
            choice[f] = INT + rest % KINDS;
            rest /= KINDS;
        }
    }

    /** Whether the choice meets the demands of the loaded functions without those whose bits are left out. */
    private boolean loadedAgree(int leftOut) {
        for (int f = 0; f < FUNCTIONS; f++) {
            if (size[f] > 0 && (leftOut >> f & 1) == 0) {
                int first = f * NODE_LIMIT;
                if (leastClash(first, first + size[f], f, 0) != NO_PLACE) {
                    return false;
                }
            }
        }
        return true;
    }

    private int leastClashOfText() {
        int least = NO_PLACE;
        // The defs stand in the order of their places, so the first that clashes has the least one.
        for (int def = 0; def < defCount && least == NO_PLACE; def++) {
            int f = functionOfDef(def);
            least = leastClash(defFirst[def], defEnd[def], f, defPlace[def]);
        }
        return least;
    }

    /** The least place of a demand of one def that the choice doesn't meet. */
    private int leastClash(int first, int end, int f, int namePlace) {
        int least = NO_PLACE;
        for (int node = first; node < end; node++) {
            nodeKind[node] = kindOfNode(node);
            if (!isMet(node) && nodePlace[node] < least) {
                least = nodePlace[node];
            }
        }
        return nodeKind[end - 1] == choice[f] ? least : namePlace;
    }

    private int kindOfNode(int node) {
        switch (nodeOp[node]) {
            case NUMBER: case X: case '+': case '-': case '*': case '/': case '%': case NEGATE: case HD:
                return INT;
            case NIL: case ':': case TL:
                return LIST;
            case CALL:
                return choice[nodeNumber[node]];
            case IF:
                return nodeKind[part[node * PARTS + 1]];
            case TRY:
                return nodeKind[part[node * PARTS]];
            default:
                return BOOL;
        }
    }

    private boolean isMet(int node) {
        int a = nodeKind[part[node * PARTS]];
        int b = nodeKind[part[node * PARTS + 1]];
        int c = nodeKind[part[node * PARTS + 2]];
        switch (nodeOp[node]) {
            case '+': case '-': case '*': case '/': case '%': case '<':
                return a == INT && b == INT;
            case '=':
                return a == b && a != LIST;
            case NEGATE: case CALL:
                return a == INT;
            case '!':
                return a == BOOL;
            case '&': case '|':
                return a == BOOL && b == BOOL;
            case ':':
                return a == INT && b == LIST;
            case HD: case TL: case NUL:
                return a == LIST;
            case IF:
                return a == BOOL && b == c;
            case TRY:
                return a == b;
            default:
                return true;
        }
    }

    // ---- Taking the module in ----

    private void install() {
        for (int def = 0; def < defCount; def++) {
            int f = functionOfDef(def);
            int shift = f * NODE_LIMIT - defFirst[def];
            size[f] = defEnd[def] - defFirst[def];
            for (int node = defFirst[def]; node < defEnd[def]; node++) {
                int target = node + shift;
                nodeOp[target] = nodeOp[node];
                nodeNumber[target] = nodeNumber[node];
                for (int i = 0; i < PARTS; i++) {
                    part[target * PARTS + i] = part[node * PARTS + i] + shift;
                }
            }
        }
    }

    private void findKinds() {
        for (int f = 0; f < FUNCTIONS; f++) {
            kindFound[f] = 0;
        }
        for (int c = 0; c < CHOICES; c++) {
            choose(c);
            if (loadedAgree(0)) {
                for (int f = 0; f < FUNCTIONS; f++) {
                    // INT is also what stands where choices differ, so once there it is never left.
                    boolean same = kindFound[f] == 0 || kindFound[f] == choice[f];
                    kindFound[f] = same ? choice[f] : INT;
                }
            }
        }
    }

    // ---- Finding the outcomes ----

    /**
     * Every outcome starts as LOOP and is settled once its rule gives another one. Rules pass LOOP on wherever they
     * look at it, so what is still LOOP when a pass settles nothing can't be found by the rules.
     */
    private void findOutcomes() {
        for (int cell = 0; cell < CELLS; cell++) {
            status[cell] = LOOP;
        }
        boolean settled = true;
        for (int pass = 0; pass <= CELLS && settled; pass++) {
            settled = false;
            for (int cell = 0; cell < CELLS; cell++) {
                if (status[cell] == LOOP && isInUse(cell)) {
                    settle(cell / WIDEST, cell % WIDEST);
                    settled |= status[cell] != LOOP;
                }
            }
        }
    }

    private boolean isInUse(int cell) {
        int node = cell / WIDEST;
        return cell % WIDEST < width && node % NODE_LIMIT < size[node / NODE_LIMIT];
    }

    private void settle(int node, int x) {
        int cell = node * WIDEST + x;
        switch (nodeOp[node]) {
            case NUMBER:
                give(cell, nodeNumber[node]);
                break;
            case X:
                give(cell, x);
                break;
            case NIL: case NO:
                give(cell, 0);
                break;
            case YES:
                give(cell, 1);
                break;
            case ':':
                give(cell, cell + 1);
                break;
            case TRY:
                settleTry(node, x);
                break;
            default:
                settleStrict(node, x);
                break;
        }
    }

    private void give(int cell, long given) {
        status[cell] = DONE;
        result[cell] = given;
    }

    private void copy(int cell, int from) {
        status[cell] = status[from];
        result[cell] = result[from];
    }

    private void settleTry(int node, int x) {
        int cell = node * WIDEST + x;
        int a = part[node * PARTS] * WIDEST + x;
        int b = part[node * PARTS + 1] * WIDEST + x;
        boolean caught = status[a] == DIVIDE || status[a] == RANGE || status[a] == EMPTY;
        copy(cell, caught ? b : a);
    }

    /** The nodes that look at their first part before all else. */
    private void settleStrict(int node, int x) {
        int cell = node * WIDEST + x;
        int a = part[node * PARTS] * WIDEST + x;
        int b = part[node * PARTS + 1] * WIDEST + x;
        int c = part[node * PARTS + 2] * WIDEST + x;
        if (status[a] != DONE) {
            copy(cell, a);
            return;
        }
        switch (nodeOp[node]) {
            case '&':
                copy(cell, result[a] == 0 ? a : b);
                break;
            case '|':
                copy(cell, result[a] == 0 ? b : a);
                break;
            case IF:
                copy(cell, result[a] == 0 ? c : b);
                break;
            case NEGATE:
                give(cell, -result[a]);
                break;
            case '!': case NUL:
                give(cell, result[a] == 0 ? 1 : 0);
                break;
            case HD:
                settlePart(cell, a, 0);
                break;
            case TL:
                settlePart(cell, a, 1);
                break;
            case CALL:
                settleCall(cell, nodeNumber[node], result[a]);
                break;
            default:
                settleTwoSided(cell, nodeOp[node], a, b);
                break;
        }
    }

    private void settlePart(int cell, int list, int which) {
        if (result[list] == 0) {
            status[cell] = EMPTY;
            return;
        }
        int from = partOfList(list, which);
        copy(cell, from);
    }

    private void settleCall(int cell, int f, long argument) {
        if (argument < 0 || argument >= width) {
            status[cell] = RANGE;
            return;
        }
        // A function that is called is defined: UNKNOWN and unload() see to that.
        int from = cellOf(f, (int) argument);
        copy(cell, from);
    }

    private void settleTwoSided(int cell, int op, int a, int b) {
        if (status[b] != DONE) {
            copy(cell, b);
            return;
        }
        long left = result[a];
        long right = result[b];
        if (right == 0 && (op == '/' || op == '%')) {
            status[cell] = DIVIDE;
            return;
        }
        switch (op) {
            case '+':
                give(cell, left + right);
                break;
            case '-':
                give(cell, left - right);
                break;
            case '*':
                give(cell, left * right);
                break;
            case '/':
                give(cell, left / right);
                break;
            case '%':
                give(cell, left % right);
                break;
            case '<':
                give(cell, left < right ? 1 : 0);
                break;
            default:
                give(cell, left == right ? 1 : 0);
                break;
        }
    }
}
