/** Promises 4 and 5: load and place, but for CLASH, which KindTest has. */
public final class LoadTest {
    private static final Check check = new Check();

    public static void main(String[] args) {
        scanFindings();
        tokensWithoutBlanks();
        syntaxFindings();
        syntaxOfUnwholeModules();
        nothingIsLeftOfUnwholeModules();
        defFindings();
        unknownCalls();
        orderOfFindings();
        grouping();
        nothingChangesWhenRefused();
        reloading();
        check.end();
    }

    private static void scanFindings() {
        for (char c : "#$\"',.>?@[\\]^_`{}~FGZ".toCharArray()) {
            check.refused("A=x" + c + ";", LazyModules.SCAN, 3);
        }
        check.refused("A=xx;", LazyModules.SCAN, 2);
        check.refused("A=xa;", LazyModules.SCAN, 2);
        check.refused("A=xz;", LazyModules.SCAN, 2);
        check.refused("A= iff;", LazyModules.SCAN, 3);
        check.refused("A=nilx;", LazyModules.SCAN, 2);
        check.refused("A=thens;", LazyModules.SCAN, 2);
        check.refused("A=i f;", LazyModules.SCAN, 2);
        check.refused("a=x;", LazyModules.SCAN, 0);
        check.refused("A=1234567890;", LazyModules.SCAN, 2);
        check.refused("A=0000000001;", LazyModules.SCAN, 2);
        check.refused("A=1+" + "9".repeat(190), LazyModules.SCAN, 4);
        check.refused("A=" + "x".repeat(198), LazyModules.SCAN, 2);
        check.refused("A=foo+1234567890;", LazyModules.SCAN, 2);
        check.refused(";;;;#", LazyModules.SCAN, 4);
        check.outcome("123456789", 0, LazyModules.DONE, 123456789);
        check.outcome("000000007", 0, LazyModules.DONE, 7);
    }

    private static void tokensWithoutBlanks() {
        check.outcome("if(x<1)then 1else 2", 0, LazyModules.DONE, 1);
        check.outcome("if x<1then(1)else(2)", 1, LazyModules.DONE, 2);
        LazyModules program = check.loaded(3, "  A = B ( x ) ;B=  try 1/x else-1;  ");
        check.cell(program, 0, 0, LazyModules.DONE, -1);
        check.cell(program, 0, 1, LazyModules.DONE, 1);
    }

    private static void syntaxFindings() {
        check.refused("x", LazyModules.SYNTAX, 0);
        check.refused("  =x;", LazyModules.SYNTAX, 2);
        check.refused("A x;", LazyModules.SYNTAX, 2);
        check.refused("A(x)=x;", LazyModules.SYNTAX, 1);
        check.refused("A=;", LazyModules.SYNTAX, 2);
        check.refused("A=x;;", LazyModules.SYNTAX, 4);
        check.refused("A=x;x", LazyModules.SYNTAX, 4);
        check.refused("A=x B=1;", LazyModules.SYNTAX, 4);
        check.refused("A=1 2;", LazyModules.SYNTAX, 4);
        check.refused("A=x1;", LazyModules.SYNTAX, 3);
        check.refused("A=BA(x);", LazyModules.SYNTAX, 3);
        check.refused("A=B+1;", LazyModules.SYNTAX, 3);
        check.refused("A=hd x;", LazyModules.SYNTAX, 5);
        check.refused("A=nul nil;", LazyModules.SYNTAX, 6);
        check.refused("A=A();", LazyModules.SYNTAX, 4);
        check.refused("A=();", LazyModules.SYNTAX, 3);
        check.refused("A=(x;", LazyModules.SYNTAX, 4);
        check.refused("A=x);", LazyModules.SYNTAX, 3);
        check.refused("A=x!;", LazyModules.SYNTAX, 3);
        check.refused("A=+x;", LazyModules.SYNTAX, 2);
        check.refused("A=1+*2;", LazyModules.SYNTAX, 4);
        check.refused("A=1+if x then 1 else 2;", LazyModules.SYNTAX, 4);
        check.refused("A=-if x then 1 else 2;", LazyModules.SYNTAX, 3);
        check.refused("A=yes|try 1 else 2;", LazyModules.SYNTAX, 6);
        check.refused("A=if x else 1;", LazyModules.SYNTAX, 7);
        check.refused("A=if x then 1;", LazyModules.SYNTAX, 13);
        check.refused("A=if try x then 1 else 2;", LazyModules.SYNTAX, 11);
        check.refused("A=if (x then 1 else 2;", LazyModules.SYNTAX, 8);
        check.refused("A=try x;", LazyModules.SYNTAX, 7);
        check.refused("A=try x else 1 else 2;", LazyModules.SYNTAX, 15);
        check.refused("A=x then 1;", LazyModules.SYNTAX, 4);
        check.refused("A=x else 1;", LazyModules.SYNTAX, 4);
        check.refused("A=1::nil;", LazyModules.SYNTAX, 4);
        check.refused("A=:nil;", LazyModules.SYNTAX, 2);
        check.refused("A==x;", LazyModules.SYNTAX, 2);
        check.refused("A=x=;", LazyModules.SYNTAX, 4);
    }

    private static void syntaxOfUnwholeModules() {
        check.refused("", LazyModules.SYNTAX, 0);
        check.refused("   ", LazyModules.SYNTAX, 3);
        check.refused("A", LazyModules.SYNTAX, 1);
        check.refused("A=", LazyModules.SYNTAX, 2);
        check.refused("A=x", LazyModules.SYNTAX, 3);
        check.refused("A=x  ", LazyModules.SYNTAX, 5);
        check.refused("A=1+", LazyModules.SYNTAX, 4);
        check.refused("A=(x", LazyModules.SYNTAX, 4);
        check.refused("A=B(", LazyModules.SYNTAX, 4);
        check.refused("A=hd", LazyModules.SYNTAX, 4);
        check.refused("A=x;B", LazyModules.SYNTAX, 5);
        check.refused("A=if x then 1", LazyModules.SYNTAX, 13);
        check.refused("A=" + "(".repeat(198), LazyModules.SYNTAX, 200);
        check.refused("A=" + "-".repeat(198), LazyModules.SYNTAX, 200);
        check.refused("A=" + "1+".repeat(99), LazyModules.SYNTAX, 200);
        check.refused("A=" + "if ".repeat(66), LazyModules.SYNTAX, 200);
    }

    private static void nothingIsLeftOfUnwholeModules() {
        LazyModules program = new LazyModules(2);
        check.put(program, "A=1:" + "(1+".repeat(65));
        for (int i = 0; i < 20; i++) {
            check.due("load of open brackets", program.load(), LazyModules.SYNTAX);
            check.due("place of open brackets", program.place(), 199);
        }
        check.due("wipe", program.wipe(), 199);
        check.load(program, "A=4-x;");
        check.cell(program, 0, 1, LazyModules.DONE, 3);
    }

    private static void defFindings() {
        check.refused("A=x;A=1;", LazyModules.DOUBLE, 4);
        check.refused("A=x;B=1; A=nil;", LazyModules.DOUBLE, 9);
        check.refused("A=x;" + "B=x;".repeat(49), LazyModules.DOUBLE, 8);
        String seven = "((x+x)+(x+x))";
        String fifteen = "(" + seven + "+" + seven + ")";
        check.loaded(2, "A=" + fifteen + "+((x+x)+(-x+x));");
        check.refused(" A=" + fifteen + "+((x+x)+(-x+-x));", LazyModules.LARGE, 1);
        check.loaded(2, "A=1:2:3:nil;");
        check.refused("A=1:2:3:4:nil;", LazyModules.LARGE, 0);
        check.refused("B=x;A=1:2:3:A(hd(4:nil));", LazyModules.LARGE, 4);
        check.loaded(2, "A=x+x+x+x+x+x+x+x;");
        check.refused("A=x+x+x+x+x+x+x+x+x;", LazyModules.DEEP, 0);
        check.loaded(2, "A=-------x;");
        check.refused("B=x;  A=--------x;", LazyModules.DEEP, 6);
        check.loaded(2, "A=((((((((((x))))))))));");
        check.loaded(2, "A=A(A(A(A(A(A(A(x)))))));");
        check.refused("A=A(A(A(A(A(A(A(A(x))))))));", LazyModules.DEEP, 0);
        check.loaded(2, "A=if yes then 1 else ------x;");
        check.refused("A=if yes then 1 else -------x;", LazyModules.DEEP, 0);
        check.refused("A=try 1 else -------x;", LazyModules.DEEP, 0);
        check.refused("A=if !!!!!!!yes then 1 else 2;", LazyModules.DEEP, 0);
        check.refused("A=x;A=--------x;", LazyModules.DOUBLE, 4);
        check.refused("A=--------x;A=x;", LazyModules.DEEP, 0);
        check.refused("A=" + "-".repeat(30) + "x;", LazyModules.LARGE, 0);
        check.refused("A=" + "1+".repeat(98) + "x;", LazyModules.LARGE, 0);
    }

    private static void unknownCalls() {
        check.refused("A=B(x);", LazyModules.UNKNOWN, 2);
        check.refused("A=1+C(B(x));", LazyModules.UNKNOWN, 4);
        check.refused("A=B(x)+D(C(x));B=x;", LazyModules.UNKNOWN, 7);
        check.loaded(2, "A=B(x);B=A(x);");
        LazyModules program = check.loaded(2, "B=5;");
        check.load(program, "A=B(x);");
        check.cell(program, 0, 1, LazyModules.DONE, 5);
        check.due("unload(0)", program.unload(0), true);
        check.due("unload(1)", program.unload(1), true);
        check.refused(program, "A=B(x);", LazyModules.UNKNOWN, 2);
    }

    private static void orderOfFindings() {
        check.refused("A=;#", LazyModules.SCAN, 3);
        check.refused("A=x;A=1;)", LazyModules.SYNTAX, 8);
        check.refused("A=B(x);C=--------x;", LazyModules.DEEP, 7);
        check.refused("A=1+nil+B(x);", LazyModules.UNKNOWN, 8);
        check.refused("A=1+nil;A=x;", LazyModules.DOUBLE, 8);
    }

    private static void grouping() {
        check.outcome("7-2-1", 0, LazyModules.DONE, 4);
        check.outcome("2+3*4", 0, LazyModules.DONE, 14);
        check.outcome("(2+3)*4", 0, LazyModules.DONE, 20);
        check.outcome("100/7/2*3%4", 0, LazyModules.DONE, 1);
        check.outcome("-2+5", 0, LazyModules.DONE, 3);
        check.outcome("2*-3-1", 0, LazyModules.DONE, -7);
        check.refused("A=1<2=2<3;", LazyModules.CLASH, 5);
        check.outcome("1=1=yes", 0, LazyModules.DONE, 1);
        check.outcome("1+1<3=no", 0, LazyModules.DONE, 0);
        check.outcome("yes|no&no", 0, LazyModules.DONE, 1);
        check.outcome("(yes|no)&no", 0, LazyModules.DONE, 0);
        check.outcome("!no&no", 0, LazyModules.DONE, 0);
        check.outcome("!(no&no)", 0, LazyModules.DONE, 1);
        check.outcome("if yes then 1 else 2+10", 0, LazyModules.DONE, 1);
        check.outcome("if no then 1 else 2+10", 0, LazyModules.DONE, 12);
        check.outcome("try 1 else 2+10", 0, LazyModules.DONE, 1);
        check.outcome("if yes then if no then 1 else 2 else 3", 0, LazyModules.DONE, 2);
        check.outcome("if yes then try 1/0 else 7 else 3", 0, LazyModules.DONE, 7);
        check.outcome("hd(1+2:if yes then nil else nil)", 0, LazyModules.DONE, 3);
        LazyModules program = check.loaded(2, "A=if x<1 then nil else 4:5:nil;");
        check.due("length of the list after else", program.length(0, 0), 0);
        check.due("length of the list after else", program.length(0, 1), 2);
    }

    private static void nothingChangesWhenRefused() {
        LazyModules program = check.loaded(3, "A=x+1;B=A(x):nil;");
        check.due("ask", program.ask(1, 0, 2), true);
        String[] texts = {"A=#;", "A=;", "A=1;A=2;", "A=1:2:3:4:nil;", "A=--------x;", "A=C(x);", "A=nil;"};
        for (String text : texts) {
            check.put(program, text);
            check.due("load of " + text + " is OK", program.load() == LazyModules.OK, false);
            check.due("the buffer after " + text, program.load() == LazyModules.OK, false);
            check.due("place after " + text + " is found", program.place() >= 0, true);
            check.due("wipe", program.wipe(), text.length());
            check.cell(program, 0, 2, LazyModules.DONE, 3);
            check.due("item after " + text, program.itemValue(1, 1, 0), 2);
            check.due("kind after " + text, program.kind(0), LazyModules.INT);
            check.due("kind after " + text, program.kind(2), 0);
            check.due("pending after " + text, program.pending(1), 2);
        }
        check.due("place stays until the next load", program.place(), 0);
        check.load(program, "A=0;");
    }

    private static void reloading() {
        LazyModules program = check.loaded(4, "A=x*2;B=A(x)+1;C=B(x):C(x);");
        check.cell(program, 1, 3, LazyModules.DONE, 7);
        check.load(program, "A=10/x;");
        check.cell(program, 1, 0, LazyModules.DIVIDE, 0);
        check.cell(program, 1, 2, LazyModules.DONE, 6);
        check.due("an element that rests on A", program.item(2, 0, 3), LazyModules.DIVIDE);
        check.due("an element that rests on A", program.itemValue(2, 2, 3), 6);
        check.load(program, "A=B(x);D=A(0);");
        check.cell(program, 3, 1, LazyModules.LOOP, 0);
        check.load(program, "B=5;C=1:nil;");
        check.cell(program, 3, 1, LazyModules.DONE, 5);
        check.due("length of the new C", program.length(2, 3), 1);
    }
}
