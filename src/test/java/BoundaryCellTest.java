/** The boundary cases that promises 6 to 12 name, with a method for each sentence. */
public final class BoundaryCellTest {
    private static final Check check = new Check();
    private static final int INT = LazyModules.INT;
    private static final int BOOL = LazyModules.BOOL;
    private static final int LIST = LazyModules.LIST;
    private static final int REFUSED = LazyModules.REFUSED;
    private static final int DONE = LazyModules.DONE;
    private static final int LOOP = LazyModules.LOOP;
    private static final int DIVIDE = LazyModules.DIVIDE;
    private static final int RANGE = LazyModules.RANGE;
    private static final int EMPTY = LazyModules.EMPTY;
    private static final int MIN = Integer.MIN_VALUE;
    private static final int MAX = Integer.MAX_VALUE;

    /** Outside 0..4, also where only the low bits of the number are looked at. */
    private static final int[] NO_FUNCTIONS = {MIN, MIN + 1, -256, -5, -1, 5, 6, 8, 256, 65536, MAX};

    /** Numbers and lists that can't be found while C is defined, in the order of STATUS. */
    private static final String[] SPOILT = {"(1/0)", "C(6)", "hd(nil)", "hd(D(x))"};
    private static final int[] STATUS = {DIVIDE, RANGE, EMPTY, LOOP};
    private static final String LOOPS = "C=x;D=tl(D(x));";

    public static void main(String[] args) {
        kindOutside();
        kindNotDefined();
        kindInEveryChoice();
        kindWhereChoicesDiffer();
        removing();
        removingWhatWasCalled();
        unloadOutside();
        unloadOfWhatIsCalled();
        unloadOfWhatCallsItself();
        unloadOfWhatIsAskedFor();
        unloadChangingNothing();
        lookOutside();
        lookNotDefined();
        lookBeyondTheWidth();
        valuesOfKinds();
        valuesElse();
        itemRefused();
        itemOfNoList();
        itemsFarOff();
        itemsNotDone();
        itemsEmpty();
        itemsOfFirstParts();
        itemValues();
        lengthRefused();
        lengthUpToForty();
        lengthsNotDone();
        lengthsWithoutEnd();
        check.end();
    }

    private static void kindOutside() {
        check.sentence("0 if f is outside 0..4");
        LazyModules program = check.loaded(2, "A=x;B=x;C=x;D=x;E=x;");
        for (int f : NO_FUNCTIONS) {
            check.due("kind(" + f + ")", program.kind(f), 0);
        }
        check.due("kind(0)", program.kind(0), INT);
        check.due("kind(4)", program.kind(4), INT);
    }

    private static void kindNotDefined() {
        check.sentence("0 if f is .. not defined");
        for (int only = 0; only < 5; only++) {
            LazyModules program = new LazyModules(2);
            check.due("kind before", program.kind(only), 0);
            check.refused(program, (char) ('A' + only) + "=x", LazyModules.SYNTAX, 3);
            check.due("kind after a load that failed", program.kind(only), 0);
            check.load(program, (char) ('A' + only) + "=yes;");
            for (int f = 0; f < 5; f++) {
                check.due("kind(" + f + ")", program.kind(f), f == only ? BOOL : 0);
            }
            check.due("unload", program.unload(only), true);
            check.due("kind after unload", program.kind(only), 0);
        }
    }

    private static void kindsAre(String text, int... kinds) {
        LazyModules program = check.loaded(2, text);
        for (int f = 0; f < kinds.length; f++) {
            check.due("kind(" + f + ") of " + text, program.kind(f), kinds[f]);
        }
    }

    private static void kindInEveryChoice() {
        check.sentence("the kind that f has in every choice of kinds that meets all demands of the functions loaded");
        kindsAre("A=A(x);B=-A(x);", INT, INT);
        kindsAre("A=A(x);B=!A(x);", BOOL, BOOL);
        kindsAre("A=A(x);B=hd(A(x));", LIST, INT);
        kindsAre("A=B(x);B=C(x);C=D(x);D=E(x);E=if A(x) then B(x) else C(x);", BOOL, BOOL, BOOL, BOOL, BOOL);
        kindsAre("A=A(x);B=if yes then 1:A(x) else nil;C=try C(x) else A(x);", LIST, LIST, LIST);
        LazyModules program = check.loaded(2, "A=A(x);B=tl(A(x));C=nul(A(x));");
        check.due("kind(0)", program.kind(0), LIST);
        check.due("unload(1)", program.unload(1), true);
        check.due("kind(0) without one demand", program.kind(0), LIST);
        check.due("unload(2)", program.unload(2), true);
        check.due("kind(0) without both demands", program.kind(0), INT);
        check.load(program, "B=A(x)|no;");
        check.due("kind(0) with another demand", program.kind(0), BOOL);
        check.load(program, "B=1;");
        check.due("kind(0) without the demand of an earlier def", program.kind(0), INT);
    }

    private static void kindWhereChoicesDiffer() {
        check.sentence("INT if such choices differ for f");
        kindsAre("A=A(x);", INT);
        kindsAre("A=B(x);B=C(x);C=A(x);D=nil;", INT, INT, INT, LIST);
        kindsAre("A=A(x);B=A(x)=A(x);C=try A(x) else D(x);D=A(7);", INT, BOOL, INT, INT);
        kindsAre("B=if yes then B(x) else A(x);A=A(x);E=yes;", INT, INT, 0, 0, BOOL);
    }

    private static void removing() {
        check.sentence("Removes function f");
        LazyModules program = check.loaded(3, "A=x;B=A(x)+1;C=B(x):nil;");
        check.due("ask", program.ask(0, 0, 1), true);
        check.put(program, "#");
        check.due("load", program.load(), LazyModules.SCAN);
        check.due("unload(2)", program.unload(2), true);
        check.due("kind(2)", program.kind(2), 0);
        check.cell(program, 2, 0, REFUSED, 0);
        check.due("item", program.item(2, 0, 0), REFUSED);
        check.due("length", program.length(2, 0), -2);
        check.due("ask", program.ask(1, 2, 0), false);
        check.due("unload(2) again", program.unload(2), false);
        check.cell(program, 1, 2, DONE, 3);
        check.due("pending(0)", program.pending(0), 1);
        check.due("place", program.place(), 0);
        check.due("wipe", program.wipe(), 1);
        check.load(program, "C=7;");
        check.cell(program, 2, 0, DONE, 7);
    }

    /** A function whose earlier def called the removed one. */
    private static void removingWhatWasCalled() {
        check.sentence("Removes function f");
        LazyModules program = check.loaded(3, "A=x;B=A(x);C=A(A(x))+0;");
        check.due("unload(0) while it is called", program.unload(0), false);
        check.load(program, "B=x;C=x;");
        check.due("unload(0)", program.unload(0), true);
        check.load(program, "D=B(x)+C(x);");
        for (int x = 0; x < 3; x++) {
            check.cell(program, 1, x, DONE, x);
            check.cell(program, 2, x, DONE, x);
            check.cell(program, 3, x, DONE, 2 * x);
        }
    }

    private static void unloadOutside() {
        check.sentence("False, changing nothing, if f is outside 0..4 or not defined");
        LazyModules program = check.loaded(2, "A=x;B=1:nil;D=yes;E=E(x);");
        String before = check.state(program, 2);
        for (int f : NO_FUNCTIONS) {
            check.due("unload(" + f + ")", program.unload(f), false);
        }
        check.due("unload(2)", program.unload(2), false);
        check.due("state", check.state(program, 2), before);
        for (int f = 0; f < 5; f++) {
            check.due("unload(" + f + ")", program.unload(f), f != 2);
            check.due("unload(" + f + ") again", program.unload(f), false);
        }
    }

    private static void unloadOfWhatIsCalled() {
        check.sentence("if another function's expression has a call of f anywhere");
        String[] callers = {"B(x)", "1+B(x)", "B(x)+1", "-B(x)", "C(B(x))", "B(C(x))", "if yes then 1 else B(x)", "if no then B(x) else 1",
            "if B(x)=1 then 1 else 2", "try 1 else B(x)", "hd(1:B(x):nil)", "if no&B(x)=1 then 1 else 2", "try 1/0+B(x) else 1"};
        for (String caller : callers) {
            LazyModules program = check.loaded(2, "A=" + caller + ";B=x;C=x;");
            String before = check.state(program, 2);
            check.due("unload(1), A=" + caller, program.unload(1), false);
            check.due("state", check.state(program, 2), before);
            check.load(program, "A=C(x);");
            check.due("unload(1)", program.unload(1), true);
            check.due("unload(2)", program.unload(2), false);
            check.due("unload(0)", program.unload(0), true);
            check.due("unload(2)", program.unload(2), true);
        }
        LazyModules program = check.loaded(2, "A=x;B=x;C=x;D=x;E=A(x)+B(x)+C(x)+D(x);");
        for (int f = 0; f < 4; f++) {
            check.due("unload(" + f + ")", program.unload(f), false);
        }
        program = check.loaded(2, "A=E(x);B=x;C=x;D=x;E=x;");
        check.due("unload(4)", program.unload(4), false);
    }

    private static void unloadOfWhatCallsItself() {
        check.sentence("another function's expression");
        LazyModules program = check.loaded(2, "A=A(x)+A(A(x));B=C(x);C=B(x);");
        check.due("unload(0)", program.unload(0), true);
        check.due("unload(1)", program.unload(1), false);
        check.due("unload(2)", program.unload(2), false);
        check.load(program, "B=B(x);");
        check.due("unload(1), which C calls", program.unload(1), false);
        check.due("unload(2)", program.unload(2), true);
        check.due("unload(1)", program.unload(1), true);
    }

    private static void unloadOfWhatIsAskedFor() {
        check.sentence("or if a slot holds a request for f");
        for (int slot = 0; slot < 3; slot++) {
            LazyModules program = check.loaded(2, "A=x;B=1/x;C=nil;");
            check.due("ask", program.ask(slot, slot, 1), true);
            String before = check.state(program, 2);
            check.due("unload of what is asked for", program.unload(slot), false);
            check.due("state", check.state(program, 2), before);
            check.due("unload of another", program.unload((slot + 1) % 3), true);
            check.due("pending", program.pending(slot), slot * 8 + 1);
            check.due("cancel", program.cancel(slot), true);
            check.due("ask again", program.ask((slot + 1) % 3, slot, 0), true);
            check.due("unload of what another slot asks for", program.unload(slot), false);
            check.due("answer", program.answer((slot + 1) % 3) != REFUSED, true);
            check.due("unload after the answer", program.unload(slot), true);
        }
        LazyModules program = check.loaded(2, "A=x;");
        check.due("ask", program.ask(0, 0, 0), true);
        check.due("ask", program.ask(2, 0, 0), true);
        check.due("cancel", program.cancel(0), true);
        check.due("unload with one request of two", program.unload(0), false);
        check.due("cancel", program.cancel(2), true);
        check.due("unload without requests", program.unload(0), true);
    }

    private static void unloadChangingNothing() {
        check.sentence("False, changing nothing");
        LazyModules program = check.loaded(3, "A=A(x);B=tl(A(x));C=hd(B(x));D=x;");
        check.due("ask", program.ask(1, 3, 2), true);
        check.put(program, "A=1");
        check.due("load", program.load(), LazyModules.SYNTAX);
        String before = check.state(program, 3);
        int[] all = {MIN, -1, 0, 1, 3, 4, 5, MAX};
        for (int f : all) {
            check.due("unload(" + f + ")", program.unload(f), false);
        }
        check.due("state", check.state(program, 3), before);
        check.due("wipe", program.wipe(), 3);
        check.due("unload(2)", program.unload(2), true);
    }

    private static void lookOutside() {
        check.sentence("REFUSED if f is outside 0..4");
        LazyModules program = check.loaded(6, "A=x;B=x;C=x;D=x;E=x;");
        for (int f : NO_FUNCTIONS) {
            check.cell(program, f, 0, REFUSED, 0);
            check.cell(program, f, 5, REFUSED, 0);
        }
        check.cell(program, 0, 5, DONE, 5);
        check.cell(program, 4, 5, DONE, 5);
    }

    private static void lookNotDefined() {
        check.sentence("REFUSED if f is .. not defined");
        LazyModules program = check.loaded(2, "A=1;C=1;E=1;");
        for (int f = 0; f < 5; f++) {
            check.cell(program, f, 0, f % 2 == 0 ? DONE : REFUSED, f % 2 == 0 ? 1 : 0);
        }
        check.due("unload", program.unload(2), true);
        check.cell(program, 2, 0, REFUSED, 0);
        check.refused(program, "B=1;#", LazyModules.SCAN, 4);
        check.cell(program, 1, 0, REFUSED, 0);
    }

    private static void lookBeyondTheWidth() {
        check.sentence("or x is outside 0..width-1");
        for (int width = 2; width <= 6; width++) {
            LazyModules program = check.loaded(width, "A=x+3;B=nil;");
            int[] outside = {MIN, MIN + 1, -8, -1, width, width + 1, 6, 7, 8, 256, 65536, MAX};
            for (int x : outside) {
                check.cell(program, 0, x, REFUSED, 0);
                check.cell(program, 1, x, REFUSED, 0);
            }
            check.cell(program, 0, 0, DONE, 3);
            check.cell(program, 0, width - 1, DONE, width + 2);
        }
    }

    private static void valuesOfKinds() {
        check.sentence("the number, or 1 for yes, 0 for no, or 1 for a list with two parts, 0 for the empty list");
        check.outcome("0", 0, DONE, 0);
        check.outcome("-1", 0, DONE, -1);
        check.outcome("999999999*999999999", 0, DONE, 999999998000000001L);
        check.outcome("-999999999*999999999", 0, DONE, -999999998000000001L);
        check.outcome("65536*65536*65536*32768", 0, DONE, Long.MIN_VALUE);
        check.outcome("yes", 0, DONE, 1);
        check.outcome("no", 0, DONE, 0);
        check.outcome("nil", 0, DONE, 0);
        check.outcome("0:nil", 0, DONE, 1);
        check.outcome("7:8:nil", 0, DONE, 1);
        check.outcome("tl(7:8:9:nil)", 5, DONE, 1);
        check.outcome("tl(7:nil)", 5, DONE, 0);
        check.outcome("1/0:nil", 5, DONE, 1);
        check.outcome("1:A(x)", 5, DONE, 1);
    }

    private static void valuesElse() {
        check.sentence("Else 0");
        for (int i = 0; i < SPOILT.length; i++) {
            LazyModules program = check.loaded(6, "A=5;B=5:nil;E=yes;" + LOOPS);
            check.cell(program, 0, 1, DONE, 5);
            check.load(program, "A=" + SPOILT[i] + ";E=" + SPOILT[i] + "=5;B=if E(x) then nil else B(x);");
            check.cell(program, 0, 1, STATUS[i], 0);
            check.cell(program, 4, 1, STATUS[i], 0);
            check.cell(program, 1, 1, STATUS[i], 0);
        }
        check.due("value of what is refused", new LazyModules(2).value(0, 0), 0);
        // The same expressions but for one token, so that a number is at hand where none must be told.
        String[] before = {"8/2", "C(5)", "hd(5:nil)", "C(x)"};
        String[] after = {"8/0", "C(6)", "hd(B(x))", "A(x)"};
        for (int i = 0; i < STATUS.length; i++) {
            LazyModules program = check.loaded(6, "A=" + before[i] + ";B=nil;C=x;E=A(x):nil;");
            check.due("value before", program.value(0, 4), i == 1 || i == 2 ? 5 : 4);
            check.due("itemValue before", program.itemValue(4, 4, 0), i == 1 || i == 2 ? 5 : 4);
            check.load(program, "A=" + after[i] + ";");
            check.cell(program, 0, 4, STATUS[i], 0);
            item(program, 4, 4, 0, STATUS[i], 0);
        }
    }

    private static void item(LazyModules program, int f, int x, int k, int status, long value) {
        String at = "(" + f + ", " + x + ", " + k + ")";
        check.due("item" + at, program.item(f, x, k), status);
        check.due("itemValue" + at, program.itemValue(f, x, k), value);
    }

    private static void itemRefused() {
        check.sentence("REFUSED if look(f, x) is REFUSED");
        LazyModules program = check.loaded(3, "A=7:A(x);B=7:A(x);C=7:A(x);E=7:A(x);");
        for (int f : NO_FUNCTIONS) {
            item(program, f, 0, 0, REFUSED, 0);
        }
        item(program, 3, 0, 0, REFUSED, 0);
        int[] outside = {MIN, -1, 3, 4, 5, 6, 8, MAX};
        for (int x : outside) {
            item(program, 0, x, 0, REFUSED, 0);
        }
        item(program, 0, 0, 0, DONE, 7);
        item(program, 4, 2, 0, DONE, 7);
        check.due("unload", program.unload(4), true);
        item(program, 4, 2, 0, REFUSED, 0);
    }

    private static void itemOfNoList() {
        check.sentence("f's kind isn't LIST");
        LazyModules program = check.loaded(3, "A=5;B=yes;C=C(x);D=1/0;E=no;");
        for (int f = 0; f < 5; f++) {
            item(program, f, 0, 0, REFUSED, 0);
            item(program, f, 0, 31, REFUSED, 0);
            check.due("length of no list", program.length(f, 0), -2);
        }
        check.load(program, "D=nul(C(x));");
        item(program, 2, 0, 0, LOOP, 0);
        check.load(program, "D=1;");
        item(program, 2, 0, 0, REFUSED, 0);
        check.load(program, "A=5:nil;");
        item(program, 0, 0, 0, DONE, 5);
        check.load(program, "A=5;");
        item(program, 0, 0, 0, REFUSED, 0);
    }

    private static void itemsFarOff() {
        check.sentence("or k is outside 0..31");
        LazyModules program = check.loaded(6, "A=x:A((x+1)%6);B=nil;C=tl(nil);");
        int[] outside = {MIN, MIN + 1, -32, -1, 32, 33, 40, 41, 64, 256, 65536, MAX};
        for (int k : outside) {
            item(program, 0, 0, k, REFUSED, 0);
            item(program, 1, 0, k, REFUSED, 0);
            item(program, 2, 0, k, REFUSED, 0);
        }
        for (int k = 0; k <= 31; k++) {
            item(program, 0, 5, k, DONE, (5 + k) % 6);
            item(program, 1, 0, k, EMPTY, 0);
        }
    }

    /** A list that can't be found, for each status. */
    private static String list(int i) {
        return "(if " + SPOILT[i] + "=0 then nil else nil)";
    }

    private static void itemsNotDone() {
        check.sentence("if an outcome met is not DONE, its status");
        for (int i = 0; i < STATUS.length; i++) {
            LazyModules program = check.loaded(6, LOOPS + "A=" + list(i) + ";B=8:A(x);E=1:2:3:A(x);");
            int[] some = {0, 1, 2, 31};
            for (int k : some) {
                item(program, 0, 1, k, STATUS[i], 0);
            }
            item(program, 1, 1, 0, DONE, 8);
            item(program, 1, 1, 1, STATUS[i], 0);
            item(program, 1, 1, 31, STATUS[i], 0);
            item(program, 4, 1, 2, DONE, 3);
            item(program, 4, 1, 3, STATUS[i], 0);
            item(program, 4, 1, 4, STATUS[i], 0);
        }
    }

    private static void itemsEmpty() {
        check.sentence("if the empty list is met, EMPTY");
        LazyModules program = check.loaded(6, "A=nil;B=8:nil;C=if x<5 then x:C(x+1) else nil;");
        for (int k = 0; k <= 31; k++) {
            item(program, 0, 1, k, EMPTY, 0);
            item(program, 1, 1, k, k == 0 ? DONE : EMPTY, k == 0 ? 8 : 0);
            item(program, 2, 0, k, k < 5 ? DONE : EMPTY, k < 5 ? k : 0);
        }
    }

    private static void itemsOfFirstParts() {
        check.sentence("else the status of the first part of the list that is reached");
        for (int i = 0; i < STATUS.length; i++) {
            LazyModules program = check.loaded(6, LOOPS + "A=" + SPOILT[i] + ":5:" + SPOILT[i] + ":B(x);B=x:nil;");
            item(program, 0, 3, 0, STATUS[i], 0);
            item(program, 0, 3, 1, DONE, 5);
            item(program, 0, 3, 2, STATUS[i], 0);
            item(program, 0, 3, 3, DONE, 3);
            item(program, 0, 3, 4, EMPTY, 0);
            check.due("length", program.length(0, 3), 4);
        }
    }

    private static void itemValues() {
        check.sentence("If item(f, x, k) is DONE: that number. Else 0");
        LazyModules program = check.loaded(6, "A=0:-1:65536*65536*65536*32768:nil;B=999999999*999999999:x:-x:nil;");
        long[] numbers = {0, -1, Long.MIN_VALUE};
        for (int k = 0; k < 3; k++) {
            item(program, 0, 2, k, DONE, numbers[k]);
        }
        item(program, 1, 4, 0, DONE, 999999998000000001L);
        item(program, 1, 4, 1, DONE, 4);
        item(program, 1, 4, 2, DONE, -4);
        item(program, 1, 4, 3, EMPTY, 0);
        item(program, 1, 6, 0, REFUSED, 0);
    }

    private static void lengthIs(LazyModules program, int f, int x, int due) {
        check.due("length(" + f + ", " + x + ")", program.length(f, x), due);
    }

    private static void lengthRefused() {
        check.sentence("-2 where item(f, x, 0) is REFUSED");
        LazyModules program = check.loaded(3, "A=7:nil;B=1;C=yes;D=D(x);");
        for (int f : NO_FUNCTIONS) {
            lengthIs(program, f, 0, -2);
        }
        int[] outside = {MIN, -1, 3, 4, 6, MAX};
        for (int x : outside) {
            lengthIs(program, 0, x, -2);
        }
        for (int f = 1; f < 5; f++) {
            lengthIs(program, f, 0, -2);
        }
        lengthIs(program, 0, 2, 1);
        lengthIs(new LazyModules(6), 0, 0, -2);
    }

    /** A at 0 has 36 second parts before the list of C at 0; last is what follows the elements of C from 0 up to top. */
    private static LazyModules longList(int top, String last) {
        return check.loaded(6, "A=1:2:3:if x<5 then A(x+1) else B(0);B=4:5:6:if x<5 then B(x+1) else C(0);"
            + "C=x:if x<" + top + " then C(x+1) else " + last + ";D=D(x);");
    }

    private static void lengthUpToForty() {
        check.sentence("the number of second parts passed until the empty list is met, if that is at most 40");
        LazyModules program = check.loaded(6, "A=nil;B=1:nil;C=1:2:nil;D=1:2:3:A(x);");
        for (int f = 0; f < 4; f++) {
            lengthIs(program, f, 0, f);
        }
        for (int top = 0; top <= 5; top++) {
            int whole = 37 + top;
            program = longList(top, "nil");
            lengthIs(program, 0, 0, whole <= 40 ? whole : -1);
            lengthIs(program, 0, 1, whole - 3 <= 40 ? whole - 3 : -1);
            lengthIs(program, 0, 5, whole - 15);
            lengthIs(program, 1, 0, whole - 18);
            lengthIs(program, 2, 0, top + 1);
            lengthIs(program, 2, 5, 1);
        }
    }

    private static void lengthsNotDone() {
        check.sentence("-1 if an outcome that is not DONE is met before");
        for (int i = 0; i < STATUS.length; i++) {
            LazyModules program = check.loaded(6, LOOPS + "A=" + list(i) + ";B=1:A(x);E=1:2:3:A(x);");
            lengthIs(program, 0, 0, -1);
            lengthIs(program, 1, 0, -1);
            lengthIs(program, 4, 0, -1);
            program = check.loaded(6, LOOPS + "A=" + SPOILT[i] + ":nil;B=" + SPOILT[i] + ":A(x);");
            lengthIs(program, 0, 0, 1);
            lengthIs(program, 1, 0, 2);
        }
        for (int top = 1; top <= 4; top++) {
            lengthIs(longList(top, "tl(nil)"), 0, 0, -1);
            lengthIs(longList(top, "C(6)"), 0, 0, -1);
            lengthIs(longList(top, "D(x)"), 0, 0, -1);
        }
    }

    private static void lengthsWithoutEnd() {
        check.sentence("or 40 parts were passed without meeting it");
        LazyModules program = check.loaded(6, "A=x:A(x);B=1:2:3:B((x+1)%6);C=1:D(x);D=2:C(5-x);");
        for (int f = 0; f < 4; f++) {
            lengthIs(program, f, 0, -1);
            lengthIs(program, f, 5, -1);
        }
        lengthIs(longList(4, "nil"), 0, 0, -1);
        lengthIs(longList(5, "nil"), 0, 0, -1);
        lengthIs(longList(5, "1:2:nil"), 0, 0, -1);
        lengthIs(longList(3, "nil"), 0, 0, 40);
    }
}
