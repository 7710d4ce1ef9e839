/** Promise 6, and the finding CLASH of promise 4: kinds and their demands. */
public final class KindTest {
    private static final Check check = new Check();
    private static final int INT = LazyModules.INT;
    private static final int BOOL = LazyModules.BOOL;
    private static final int LIST = LazyModules.LIST;

    public static void main(String[] args) {
        kindsOfExpressions();
        kindsThroughCalls();
        kindsThatDiffer();
        kindsAfterUnload();
        demandsOfNodes();
        demandsAcrossDefs();
        demandsOfKeptDefs();
        check.end();
    }

    private static void kindIs(String expression, int kind) {
        LazyModules program = check.loaded(3, "A=" + expression + ";");
        check.due("kind of " + expression, program.kind(0), kind);
    }

    private static void kindsOfExpressions() {
        String[] numbers = {"1", "x", "1+2", "1-2", "1*2", "1/2", "1%2", "-1", "hd(nil)", "if yes then 1 else 2", "try 1 else 2"};
        String[] truths = {"yes", "no", "1<2", "1=2", "yes=no", "yes&no", "yes|no", "!yes", "nul(nil)", "try yes else no"};
        String[] lists = {"nil", "1:nil", "tl(nil)", "if yes then nil else 1:nil", "try tl(nil) else nil"};
        for (String expression : numbers) {
            kindIs(expression, INT);
        }
        for (String expression : truths) {
            kindIs(expression, BOOL);
        }
        for (String expression : lists) {
            kindIs(expression, LIST);
        }
        LazyModules program = check.loaded(3, "A=x;E=nil;");
        int[] none = {Integer.MIN_VALUE, -1, 1, 2, 3, 5, Integer.MAX_VALUE};
        for (int f : none) {
            check.due("kind(" + f + ")", program.kind(f), 0);
        }
        check.due("kind(4)", program.kind(4), LIST);
    }

    private static void kindsAre(LazyModules program, int... kinds) {
        for (int f = 0; f < kinds.length; f++) {
            check.due("kind(" + f + ")", program.kind(f), kinds[f]);
        }
    }

    private static void kindsThroughCalls() {
        kindsAre(check.loaded(3, "A=B(x);B=C(x);C=D(x);D=E(x);E=A(x)&yes;"), BOOL, BOOL, BOOL, BOOL, BOOL);
        kindsAre(check.loaded(3, "A=A(x);B=hd(A(x));"), LIST, INT, 0, 0, 0);
        kindsAre(check.loaded(3, "A=if x<1 then B(x) else C(x);B=B(x);C=try C(x) else nil;"), LIST, LIST, LIST, 0, 0);
        kindsAre(check.loaded(3, "A=A(x);B=B(x);C=!(A(x)=B(x));D=if A(x) then 1 else 2;"), BOOL, BOOL, BOOL, INT, 0);
    }

    private static void kindsThatDiffer() {
        kindsAre(check.loaded(3, "A=A(x);"), INT);
        kindsAre(check.loaded(3, "A=B(x);B=A(x);C=A(x)=B(x);"), INT, INT, BOOL);
        LazyModules program = check.loaded(3, "A=A(x);B=A(x)=A(x);");
        kindsAre(program, INT, BOOL);
        check.load(program, "C=if A(x) then 1 else 2;");
        kindsAre(program, BOOL, BOOL, INT);
    }

    private static void kindsAfterUnload() {
        LazyModules program = check.loaded(3, "A=A(x);B=tl(A(x));");
        kindsAre(program, LIST, LIST);
        check.due("item of a list", program.item(0, 0, 0), LazyModules.LOOP);
        check.due("unload(1)", program.unload(1), true);
        kindsAre(program, INT, 0);
        check.due("item of no list", program.item(0, 0, 0), LazyModules.REFUSED);
        check.load(program, "C=!A(x);");
        kindsAre(program, BOOL, 0, BOOL);
    }

    private static void clash(String text, int place) {
        check.refused(text, LazyModules.CLASH, place);
    }

    private static void demandsOfNodes() {
        for (char op : "+-*/%<".toCharArray()) {
            clash("A=yes" + op + "1;", 5);
            clash("A=1" + op + "nil;", 3);
        }
        clash("A=1=yes;", 3);
        clash("A=nil=nil;", 5);
        clash("A=-yes;", 2);
        clash("A=!1;", 2);
        clash("A=1&yes;", 3);
        clash("A=yes&1;", 5);
        clash("A=nil|yes;", 5);
        clash("A=yes|1;", 5);
        clash("A=yes:nil;", 5);
        clash("A=1:2;", 3);
        clash("A=nil:nil;", 5);
        clash("A=hd(1);", 2);
        clash("A=tl(yes);", 2);
        clash("A=nul(1);", 2);
        clash("A=A(nil);", 2);
        clash("A=if 1 then 1 else 2;", 2);
        clash("A=if yes then 1 else nil;", 2);
        clash("A=try 1 else no;", 2);
        clash("A=1+(if yes then nil else 1);", 3);
        clash("A=1+(if yes then 1 else nil);", 5);
        clash("A=1+(try nil else 1);", 3);
        clash("A=1+(try 1 else nil);", 5);
    }

    private static void demandsAcrossDefs() {
        clash("A=A(x)+1;B=!A(x);", 11);
        clash("B=!A(x);A=A(x)+1;", 8);
        clash("B=!A(x);A=A(x);C=A(x)+1;", 21);
        clash("A=A(x):A(x);", 6);
        clash("A=nul(A(x))+1;", 2);
        clash("A=-A(x)+(A(x)&yes);", 7);
        clash("A=1+-(if B(x) then 1 else B(x));B=B(x);", 6);
        clash("A=A(x);B=A(x);C=A(x)=B(x);D=tl(B(x));", 28);
        clash("A=if A(x) then 1 else 2;", 2);
        clash("A=if B(x) then nil else C(x);B=C(x);C=D(x);D=D(x);", 29);
    }

    private static void demandsOfKeptDefs() {
        LazyModules program = check.loaded(3, "A=x;B=A(x)+1;");
        check.refused(program, "A=nil;", LazyModules.CLASH, 0);
        check.refused(program, "C=hd(nil);A=A(x);D=tl(A(x));", LazyModules.CLASH, 19);
        check.refused(program, "C=B(x)&yes;", LazyModules.CLASH, 6);
        check.load(program, "A=nil;B=nul(A(x));");
        kindsAre(program, LIST, BOOL);
        check.load(program, "A=A(x);B=7;");
        kindsAre(program, INT, INT);
        check.load(program, "C=A(x)|no;");
        kindsAre(program, BOOL, INT, BOOL);
        check.refused(program, "B=-A(x);", LazyModules.CLASH, 2);
        check.due("unload(2)", program.unload(2), true);
        check.load(program, "B=-A(x);");
        kindsAre(program, INT, INT, 0);
    }
}
