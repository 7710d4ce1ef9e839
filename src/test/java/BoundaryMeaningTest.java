/** The boundary cases that the terms MEANING and KINDS name, with a method for each sentence. */
public final class BoundaryMeaningTest {
    private static final Check check = new Check();
    private static final int DONE = LazyModules.DONE;
    private static final int LOOP = LazyModules.LOOP;
    private static final int DIVIDE = LazyModules.DIVIDE;
    private static final int RANGE = LazyModules.RANGE;
    private static final int EMPTY = LazyModules.EMPTY;

    /** Numbers that can't be found, beside A, whose cells all loop, and B, whose cells hold their arguments. */
    private static final String[] SPOILT = {"hd(nil)", "(1/0)", "B(9)", "A(x)"};
    private static final int[] STATUS = {EMPTY, DIVIDE, RANGE, LOOP};

    public static void main(String[] args) {
        cellsForAllArguments();
        wrapping();
        dividingAsJava();
        dividingByZero();
        firstSideThenSecond();
        comparing();
        oneSidedOperators();
        and();
        or();
        ifThenElse();
        tryElse();
        listsNotLookedAt();
        headAndTail();
        partsWhereTheListArose();
        nulOfLists();
        argumentsInRange();
        argumentsFarOff();
        argumentsThatFail();
        needingItself();
        restingOnLoops();
        notRestingOnLoops();
        kindsOfNodes();
        kindsOfBranches();
        demandsOfArithmetic();
        demandOfNegation();
        demandsOfEquality();
        demandsOfTruths();
        demandsOfLists();
        demandsOfCalls();
        demandsOfBranches();
        demandsOfDefs();
        check.end();
    }

    private static void is(String expression, int status, long value) {
        LazyModules program = check.loaded(6, "A=A(x)+0;B=x;C=" + expression + ";");
        check.due("look, C=" + expression, program.look(2, 3), status);
        check.due("value, C=" + expression, program.value(2, 3), value);
    }

    private static String truth(int i) {
        return "(" + SPOILT[i] + "=0)";
    }

    private static String list(int i) {
        return "(if " + SPOILT[i] + "=0 then nil else nil)";
    }

    private static void cellsForAllArguments() {
        check.sentence("Every defined function has a cell for each argument 0..width-1");
        for (int width = 2; width <= 6; width++) {
            LazyModules program = check.loaded(width, "A=x*x;E=x<1;");
            for (int x = 0; x < width; x++) {
                check.cell(program, 0, x, DONE, x * x);
                check.cell(program, 4, x, DONE, x < 1 ? 1 : 0);
            }
            check.cell(program, 0, -1, LazyModules.REFUSED, 0);
            check.cell(program, 4, width, LazyModules.REFUSED, 0);
        }
    }

    private static void wrapping() {
        check.sentence("all arithmetic wraps as Java's long");
        long max = Long.MAX_VALUE;
        long min = Long.MIN_VALUE;
        // B is 2 to the 62nd; C and D are the greatest and the least number, found without wrapping.
        String bounds = "A=if x=0 then 2 else A(x-1)*A(x-1);B=A(5)*A(4)*A(3)*A(2)*A(1);C=B(0)-1+B(0);D=-B(0)-B(0);";
        String[] expressions = {"C(0)", "D(0)", "C(0)+1", "D(0)-1", "-D(0)", "-C(0)", "D(0)*-1", "D(0)/-1", "D(0)%-1", "C(0)*2",
            "D(0)*2", "C(0)*C(0)", "C(0)+C(0)", "C(0)-D(0)", "D(0)-C(0)", "B(0)+B(0)", "A(5)*A(5)", "D(0)/C(0)", "C(0)%D(0)",
            "999999999*999999999*999999999", "A(5)*A(4)*999999999"};
        long[] due = {max, min, min, max, min, -max, min, min, 0, -2,
            0, 1, -2, -1, 1, min, 0, -1, max,
            999999999L * 999999999L * 999999999L, (1L << 48) * 999999999L};
        for (int i = 0; i < expressions.length; i++) {
            LazyModules program = check.loaded(6, bounds + "E=" + expressions[i] + ";");
            check.due("look, E=" + expressions[i], program.look(4, 0), DONE);
            check.due("value, E=" + expressions[i], program.value(4, 0), due[i]);
        }
        String[] truths = {"D(0)<C(0)", "C(0)<D(0)", "D(0)<0", "0<C(0)", "D(0)=-D(0)", "C(0)=D(0)", "A(5)=0", "A(5)<1"};
        long[] dueTruths = {1, 0, 1, 1, 1, 0, 0, 0};
        for (int i = 0; i < truths.length; i++) {
            LazyModules program = check.loaded(6, bounds + "E=" + truths[i] + ";");
            check.due("value, E=" + truths[i], program.value(4, 0), dueTruths[i]);
        }
    }

    private static void dividingAsJava() {
        check.sentence("/ and % as Java's for long");
        int[] numbers = {-8, -7, -1, 1, 7, 8};
        for (int a : numbers) {
            for (int b : numbers) {
                is(a + "/" + b, DONE, a / b);
                is(a + "%" + b, DONE, a % b);
            }
        }
        is("0/-7", DONE, 0);
        is("0%-7", DONE, 0);
    }

    private static void dividingByZero() {
        check.sentence("but DIVIDE if b is 0");
        String[] numbers = {"0", "1", "-1", "999999999", "x"};
        for (String a : numbers) {
            is(a + "/0", DIVIDE, 0);
            is(a + "%0", DIVIDE, 0);
            is(a + "/-0", DIVIDE, 0);
            is(a + "%(x-x)", DIVIDE, 0);
        }
        is("0/1", DONE, 0);
        is("0%1", DONE, 0);
        is("0*0", DONE, 0);
    }

    private static void firstSideThenSecond() {
        check.sentence("the outcome of a if it is not DONE; else the outcome of b if that is not DONE");
        for (char op : "+-*/%<=".toCharArray()) {
            for (int i = 0; i < SPOILT.length; i++) {
                is(SPOILT[i] + op + "0", STATUS[i], 0);
                is(SPOILT[i] + op + "1", STATUS[i], 0);
                is("0" + op + SPOILT[i], STATUS[i], 0);
                is("1" + op + SPOILT[i], STATUS[i], 0);
                for (String b : SPOILT) {
                    is(SPOILT[i] + op + b, STATUS[i], 0);
                }
            }
        }
    }

    private static void comparing() {
        check.sentence("'=' compares two numbers or yes/no");
        is("2<3", DONE, 1);
        is("3<3", DONE, 0);
        is("4<3", DONE, 0);
        is("-1<0", DONE, 1);
        is("2=3", DONE, 0);
        is("3=3", DONE, 1);
        is("-3=3", DONE, 0);
        is("65536*65536=0", DONE, 0);
        is("yes=yes", DONE, 1);
        is("yes=no", DONE, 0);
        is("no=yes", DONE, 0);
        is("no=no", DONE, 1);
    }

    private static void oneSidedOperators() {
        check.sentence("-a, !a: the outcome of a if not DONE");
        for (int i = 0; i < SPOILT.length; i++) {
            is("-" + SPOILT[i], STATUS[i], 0);
            is("!" + truth(i), STATUS[i], 0);
        }
        is("-0", DONE, 0);
        is("-7", DONE, -7);
        is("--7", DONE, 7);
        is("!yes", DONE, 0);
        is("!no", DONE, 1);
    }

    private static void and() {
        check.sentence("a & b: the outcome of a if not DONE; no if a is no (b isn't looked at); else the outcome of b");
        for (int i = 0; i < SPOILT.length; i++) {
            is(truth(i) + "&no", STATUS[i], 0);
            is(truth(i) + "&yes", STATUS[i], 0);
            is("no&" + truth(i), DONE, 0);
            is("yes&" + truth(i), STATUS[i], 0);
            is(truth(i) + "&" + truth(3 - i), STATUS[i], 0);
        }
        is("no&no", DONE, 0);
        is("no&yes", DONE, 0);
        is("yes&no", DONE, 0);
        is("yes&yes", DONE, 1);
    }

    private static void or() {
        check.sentence("a | b: the outcome of a if not DONE; yes if a is yes (b isn't looked at); else the outcome of b");
        for (int i = 0; i < SPOILT.length; i++) {
            is(truth(i) + "|no", STATUS[i], 0);
            is(truth(i) + "|yes", STATUS[i], 0);
            is("yes|" + truth(i), DONE, 1);
            is("no|" + truth(i), STATUS[i], 0);
            is(truth(i) + "|" + truth(3 - i), STATUS[i], 0);
        }
        is("no|no", DONE, 0);
        is("no|yes", DONE, 1);
        is("yes|no", DONE, 1);
        is("yes|yes", DONE, 1);
    }

    private static void ifThenElse() {
        check.sentence("if c then a else b: the outcome of c if not DONE; else the outcome of a if c is yes, of b if it is no");
        for (int i = 0; i < SPOILT.length; i++) {
            is("if " + truth(i) + " then 1 else 2", STATUS[i], 0);
            is("if " + truth(i) + " then " + SPOILT[3 - i] + " else 2", STATUS[i], 0);
            is("if yes then " + SPOILT[i] + " else 2", STATUS[i], 0);
            is("if no then " + SPOILT[i] + " else 2", DONE, 2);
            is("if yes then 1 else " + SPOILT[i], DONE, 1);
            is("if no then 1 else " + SPOILT[i], STATUS[i], 0);
        }
        is("if yes then no else yes", DONE, 0);
        is("if no then no else yes", DONE, 1);
        is("if yes then nil else 1:nil", DONE, 0);
        is("if no then nil else 1:nil", DONE, 1);
    }

    private static void tryElse() {
        check.sentence("the outcome of b if that of a is DIVIDE, RANGE or EMPTY; else the outcome of a (LOOP stays LOOP)");
        for (int i = 0; i < 3; i++) {
            is("try " + SPOILT[i] + " else 5", DONE, 5);
            is("try " + truth(i) + " else yes", DONE, 1);
            is("try " + list(i) + " else 1:nil", DONE, 1);
            for (int j = 0; j < SPOILT.length; j++) {
                is("try " + SPOILT[i] + " else " + SPOILT[j], STATUS[j], 0);
            }
        }
        is("try A(x) else 5", LOOP, 0);
        for (String b : SPOILT) {
            is("try A(x) else " + b, LOOP, 0);
            is("try 4 else " + b, DONE, 4);
        }
        is("try hd(nil) else if yes then 3 else 4", DONE, 3);
        is("try hd(nil) else if no then 3 else 4", DONE, 4);
        is("try if yes then 1/0 else 4 else 5", DONE, 5);
        is("try no else yes", DONE, 0);
        is("try nil else 1:nil", DONE, 0);
        is("try 0 else 1", DONE, 0);
    }

    private static void listsNotLookedAt() {
        check.sentence("a : b: a list with two parts .. ; neither is looked at now");
        for (int i = 0; i < SPOILT.length; i++) {
            is(SPOILT[i] + ":nil", DONE, 1);
            is("1:" + list(i), DONE, 1);
            is("nul(" + SPOILT[i] + ":" + list(i) + ")", DONE, 0);
            is("try " + SPOILT[i] + ":nil else nil", DONE, 1);
            is("hd(1:" + list(i) + ")", DONE, 1);
            is("nul(tl(" + SPOILT[i] + ":nil))", DONE, 1);
        }
        is("hd(C(x)):C(x)", DONE, 1);
    }

    private static void headAndTail() {
        check.sentence("hd(e), tl(e): the outcome of e if not DONE; EMPTY if it is the empty list; else the outcome of its .. part");
        for (int i = 0; i < SPOILT.length; i++) {
            is("hd(" + list(i) + ")", STATUS[i], 0);
            is("tl(" + list(i) + ")", STATUS[i], 0);
            is("hd(" + SPOILT[i] + ":nil)", STATUS[i], 0);
            is("tl(1:" + list(i) + ")", STATUS[i], 0);
        }
        is("hd(nil)", EMPTY, 0);
        is("tl(nil)", EMPTY, 0);
        is("hd(tl(7:nil))", EMPTY, 0);
        is("tl(tl(7:nil))", EMPTY, 0);
        is("hd(7:8:nil)", DONE, 7);
        is("hd(tl(7:8:nil))", DONE, 8);
        is("tl(7:nil)", DONE, 0);
        is("tl(7:8:nil)", DONE, 1);
        is("hd(0:nil)", DONE, 0);
    }

    private static void partsWhereTheListArose() {
        check.sentence("part, at the x at which that list arose");
        LazyModules program = check.loaded(6, "A=x:B(5-x);B=10+x:A(x);C=hd(A(x-1));D=hd(tl(A(x)));E=hd(tl(tl(A(x))));");
        for (int x = 0; x < 6; x++) {
            check.cell(program, 2, x, x == 0 ? RANGE : DONE, x == 0 ? 0 : x - 1);
            check.cell(program, 3, x, DONE, 15 - x);
            check.cell(program, 4, x, DONE, 5 - x);
        }
        check.load(program, "C=A(0);D=hd(C(x))*10+x;E=hd(tl(C(x)));");
        check.cell(program, 3, 5, DONE, 5);
        check.cell(program, 4, 5, DONE, 15);
    }

    private static void nulOfLists() {
        check.sentence("nul(e): the outcome of e if not DONE; else yes if the list is empty");
        for (int i = 0; i < SPOILT.length; i++) {
            is("nul(" + list(i) + ")", STATUS[i], 0);
        }
        is("nul(nil)", DONE, 1);
        is("nul(0:nil)", DONE, 0);
        is("nul(tl(0:nil))", DONE, 1);
        is("nul(tl(0:0:nil))", DONE, 0);
    }

    private static void argumentsInRange() {
        check.sentence("RANGE if the number is below 0 or above width-1; else the cell of F at it");
        for (int width = 2; width <= 6; width++) {
            LazyModules program = check.loaded(width, "A=10+x;B=A(x-1);C=A(x+1);D=A(-x);E=A(x*2-1);");
            for (int x = 0; x < width; x++) {
                int[] arguments = {x - 1, x + 1, -x, x * 2 - 1};
                for (int i = 0; i < 4; i++) {
                    boolean inside = arguments[i] >= 0 && arguments[i] < width;
                    check.cell(program, 1 + i, x, inside ? DONE : RANGE, inside ? 10 + arguments[i] : 0);
                }
            }
        }
    }

    private static void argumentsFarOff() {
        check.sentence("RANGE if the number is below 0 or above width-1");
        String[] far = {"65536*65536", "65536*65536+1", "-65536*65536", "1-65536*65536", "65536*32768", "65536*-32768",
            "999999999", "-999999999", "65536*65536*65536*32768", "65536*65536*65536*32768-1", "8", "64", "256", "-8"};
        for (String number : far) {
            is("B(" + number + ")", RANGE, 0);
        }
        is("B(65536*65536*65536*65536)", DONE, 0);
        is("B(65536*65536*65536*65536+5)", DONE, 5);
    }

    private static void argumentsThatFail() {
        check.sentence("F(e): the outcome of e if not DONE");
        for (int i = 0; i < SPOILT.length; i++) {
            is("B(" + SPOILT[i] + ")", STATUS[i], 0);
        }
        LazyModules program = check.loaded(3, "A=7;B=A(A(x));C=A(B(x)-7);D=A(D(x));");
        check.cell(program, 1, 0, RANGE, 0);
        check.cell(program, 2, 0, RANGE, 0);
        check.cell(program, 3, 0, LOOP, 0);
    }

    private static void needingItself() {
        check.sentence("Where finding an outcome by these rules would need that very outcome .. , the outcome is LOOP");
        String[] loops = {"A(x)", "A(x)+1", "1+A(x)", "-A(x)", "A(A(x))", "if A(x)=0 then 1 else 2", "if x=0 then A(x) else A(x)",
            "try A(x) else 1", "try 1/0 else A(x)", "hd(A(x):nil)", "hd(tl(1:A(x):nil))", "A(5-(5-x))", "A((x+1)%6)", "A(5-x)",
            "A(x/2*0)", "B(x)"};
        for (String expression : loops) {
            LazyModules program = check.loaded(6, "A=" + expression + ";B=C(x);C=A(x);");
            check.cell(program, 0, 0, LOOP, 0);
        }
        String[] truths = {"A(x)&no", "yes&A(x)", "A(x)|yes", "no|A(x)", "!A(x)", "A(x)=A(x)", "A(x)=yes"};
        for (String expression : truths) {
            LazyModules program = check.loaded(6, "A=" + expression + ";");
            check.cell(program, 0, 0, LOOP, 0);
        }
        LazyModules program = check.loaded(6, "A=tl(A(x));B=nul(C(x));C=if B(x) then nil else nil;D=1:tl(D(x));E=hd(E(x)):nil;");
        check.cell(program, 0, 0, LOOP, 0);
        check.cell(program, 1, 0, LOOP, 0);
        check.cell(program, 2, 0, LOOP, 0);
        check.cell(program, 3, 0, DONE, 1);
        check.due("length of D", program.length(3, 0), -1);
        check.due("item of D", program.item(3, 0, 1), LOOP);
        check.due("item of E", program.item(4, 0, 0), LOOP);
    }

    private static void restingOnLoops() {
        check.sentence("and so is every outcome that rests on one");
        LazyModules program = check.loaded(6, "A=if x=3 then A(3) else A(x+1)+1;B=A(x)*0;C=try B(x) else 0;"
            + "D=if C(x)=0 then 1/0 else 2;E=D(1):nil;");
        for (int f = 0; f < 4; f++) {
            for (int x = 0; x < 4; x++) {
                check.cell(program, f, x, LOOP, 0);
            }
        }
        check.cell(program, 0, 4, RANGE, 0);
        check.cell(program, 2, 4, DONE, 0);
        check.cell(program, 3, 5, DIVIDE, 0);
        check.cell(program, 4, 0, DONE, 1);
        check.due("item of E", program.item(4, 0, 0), LOOP);
    }

    private static void notRestingOnLoops() {
        check.sentence("(so that the rules alone give none)");
        LazyModules program = check.loaded(6, "A=if x=0 then 0 else A(x-1)+x;B=if x<5 then B(x+1)*2 else 1;"
            + "C=if x%2=0 then D(x) else 1;D=C(x+1);");
        int sum = 0;
        for (int x = 0; x < 6; x++) {
            sum += x;
            check.cell(program, 0, x, DONE, sum);
            check.cell(program, 1, x, DONE, 1 << 5 - x);
            check.cell(program, 2, x, DONE, 1);
        }
        program = check.loaded(6, "A=x:A(x);B=hd(A(x));C=no&C(x);D=yes|D(x);E=if yes then 4 else E(x);");
        check.cell(program, 1, 5, DONE, 5);
        check.cell(program, 2, 5, DONE, 0);
        check.cell(program, 3, 5, DONE, 1);
        check.cell(program, 4, 5, DONE, 4);
        program = check.loaded(6, "A=hd(B(x));B=4:C(x);C=if hd(B(x))=4 then A(x):nil else nil;D=hd(tl(B(x)));");
        check.cell(program, 3, 2, DONE, 4);
        check.due("length", program.length(1, 2), 2);
    }

    private static void kindIs(String expression, int kind) {
        LazyModules program = check.loaded(2, "B=B(x)+0;C=C(x)&yes;D=D(x);E=tl(D(x));A=" + expression + ";");
        check.due("kind of " + expression, program.kind(0), kind);
    }

    private static void kindsOfNodes() {
        check.sentence("A number, x, .. are INT; .. are BOOL; .. are LIST; a call has the kind of the function; if .. ; try ..");
        String[] all = {"1 x 1+1 1-1 1*1 1/1 1%1 -1 hd(nil) B(x)", "yes no 1<1 1=1 yes=yes yes&yes yes|yes !yes nul(nil) C(x)",
            "nil 1:nil tl(nil) D(x) E(x)"};
        for (int kind = LazyModules.INT; kind <= LazyModules.LIST; kind++) {
            for (String expression : all[kind - 1].split(" ")) {
                kindIs(expression, kind);
                kindIs("if yes then " + expression + " else A(x)", kind);
                kindIs("try " + expression + " else A(x)", kind);
            }
        }
    }

    private static void clash(String text, int place) {
        check.refused(text, LazyModules.CLASH, place);
    }

    private static void kindsOfBranches() {
        check.sentence("if has the kind of the expression after then; try that of its first expression");
        clash("A=1+(if yes then nil else 1);", 3);
        clash("A=1+(if yes then 1 else nil);", 5);
        clash("A=1+(try nil else 1);", 3);
        clash("A=1+(try 1 else nil);", 5);
        clash("A=!(if yes then yes else if no then 1 else 2);", 4);
        clash("A=!(try yes else if no then 1 else 2);", 4);
    }

    private static void demandsOfArithmetic() {
        check.sentence("both sides of + - * / % < INT (left first)");
        for (char op : "+-*/%<".toCharArray()) {
            clash("A=yes" + op + "1;", 5);
            clash("A=nil" + op + "1;", 5);
            clash("A=1" + op + "yes;", 3);
            clash("A=1" + op + "nil;", 3);
            clash("A=nil" + op + "yes;", 5);
            check.loaded(2, "A=1" + op + "1;");
        }
    }

    private static void demandOfNegation() {
        check.sentence("unary - INT");
        clash("A=-yes;", 2);
        clash("A=-nil;", 2);
        check.loaded(2, "A=-1;");
    }

    private static void demandsOfEquality() {
        check.sentence("of '=': both sides of the same kind, then the left one not LIST");
        clash("A=1=yes;", 3);
        clash("A=yes=1;", 5);
        clash("A=nil=1;", 5);
        clash("A=1=nil;", 3);
        clash("A=yes=nil;", 5);
        clash("A=nil=nil;", 5);
        clash("A=nil=A(x);", 5);
        check.loaded(2, "A=1=1;");
        check.loaded(2, "A=yes=no;");
    }

    private static void demandsOfTruths() {
        check.sentence("! BOOL; both sides of & and | BOOL");
        clash("A=!1;", 2);
        clash("A=!nil;", 2);
        for (char op : "&|".toCharArray()) {
            clash("A=1" + op + "yes;", 3);
            clash("A=nil" + op + "yes;", 5);
            clash("A=yes" + op + "1;", 5);
            clash("A=yes" + op + "nil;", 5);
            check.loaded(2, "A=yes" + op + "yes;");
        }
    }

    private static void demandsOfLists() {
        check.sentence("':' the left INT, then the right LIST; hd, tl, nul LIST");
        clash("A=yes:nil;", 5);
        clash("A=nil:nil;", 5);
        clash("A=1:1;", 3);
        clash("A=1:yes;", 3);
        for (String name : new String[] {"hd", "tl", "nul"}) {
            clash("A=" + name + "(1);", 2);
            clash("A=" + name + "(yes);", 2);
            check.loaded(2, "A=" + name + "(nil);");
        }
    }

    private static void demandsOfCalls() {
        check.sentence("a call's argument INT");
        clash("A=A(yes);", 2);
        clash("A=A(nil);", 2);
        clash("A=yes;B=A(A(x));", 8);
        clash("B=A(A(x));A=nil;", 10);
        check.loaded(2, "A=A(1);");
        check.loaded(2, "A=nil;B=A(hd(A(x)));");
    }

    private static void demandsOfBranches() {
        check.sentence("if: the condition BOOL, then both branches of the same kind; try: both expressions of the same kind");
        clash("A=if 1 then 1 else 1;", 2);
        clash("A=if nil then 1 else 1;", 2);
        String[] kinds = {"1", "yes", "nil"};
        for (String a : kinds) {
            for (String b : kinds) {
                String branches = "A=if yes then " + a + " else " + b + ";";
                String rescue = "A=try " + a + " else " + b + ";";
                if (a.equals(b)) {
                    check.loaded(2, branches);
                    check.loaded(2, rescue);
                } else {
                    clash(branches, 2);
                    clash(rescue, 2);
                }
            }
        }
    }

    private static void demandsOfDefs() {
        check.sentence("A def asks, at the place of its NAME, that its expression has the function's kind");
        clash("B=A(x)+1; A=nil;", 10);
        clash("B=!A(x);A=1;", 8);
        clash("A=nil;B=A(x)+1;", 12);
        clash("A=A(x)+nil;", 6);
        LazyModules program = check.loaded(2, "A=1;B=-A(x);");
        check.refused(program, "A=yes;", LazyModules.CLASH, 0);
        check.refused(program, "  A=nil;", LazyModules.CLASH, 2);
        check.load(program, "A=2;");
    }
}
