/** Promises 8 and 9: the status and the value of a cell, as MEANING gives them. */
public final class OutcomeTest {
    private static final Check check = new Check();
    private static final int DONE = LazyModules.DONE;
    private static final int LOOP = LazyModules.LOOP;
    private static final int DIVIDE = LazyModules.DIVIDE;
    private static final int RANGE = LazyModules.RANGE;
    private static final int EMPTY = LazyModules.EMPTY;

    public static void main(String[] args) {
        refusals();
        values();
        arithmetic();
        orderOfLooking();
        truths();
        branches();
        rescues();
        lists();
        calls();
        loops();
        exampleOfReadme();
        check.end();
    }

    private static void refusals() {
        LazyModules program = check.loaded(3, "B=x+7;");
        int[] outside = {Integer.MIN_VALUE, -1, 0, 2, 4, 5, Integer.MAX_VALUE};
        for (int f : outside) {
            check.cell(program, f, 0, LazyModules.REFUSED, 0);
        }
        int[] wide = {Integer.MIN_VALUE, -1, 3, 4, 6, Integer.MAX_VALUE};
        for (int x : wide) {
            check.cell(program, 1, x, LazyModules.REFUSED, 0);
        }
        for (int x = 0; x < 3; x++) {
            check.cell(program, 1, x, DONE, x + 7);
        }
    }

    private static void values() {
        check.outcome("yes", 0, DONE, 1);
        check.outcome("no", 0, DONE, 0);
        check.outcome("nil", 0, DONE, 0);
        check.outcome("9:nil", 0, DONE, 1);
        check.outcome("0:nil", 5, DONE, 1);
        check.outcome("x", 5, DONE, 5);
        check.outcome("0", 5, DONE, 0);
    }

    private static void arithmetic() {
        check.outcome("-7/2", 0, DONE, -3);
        check.outcome("-7%2", 0, DONE, -1);
        check.outcome("7%-2", 0, DONE, 1);
        check.outcome("7/0", 0, DIVIDE, 0);
        check.outcome("7%(x-x)", 3, DIVIDE, 0);
        check.outcome("0/7", 0, DONE, 0);
        check.outcome("2<3", 0, DONE, 1);
        check.outcome("3<3", 0, DONE, 0);
        check.outcome("3=3", 0, DONE, 1);
        check.outcome("no=no", 0, DONE, 1);
        check.outcome("no=yes", 0, DONE, 0);
        String power = "A=if x=0 then 2 else A(x-1)*A(x-1);";
        LazyModules program = check.loaded(6, power + "B=A(5)*A(4)*A(3)*A(2)*A(1)*2;C=B(0)-1;D=B(0)/-1;E=B(0)%-1;");
        check.cell(program, 0, 5, DONE, 1L << 32);
        check.cell(program, 1, 0, DONE, Long.MIN_VALUE);
        check.cell(program, 2, 0, DONE, Long.MAX_VALUE);
        check.cell(program, 3, 0, DONE, Long.MIN_VALUE);
        check.cell(program, 4, 0, DONE, 0);
        check.load(program, "C=-B(0);D=B(0)<0;E=B(0)=-B(0);");
        check.cell(program, 2, 0, DONE, Long.MIN_VALUE);
        check.cell(program, 3, 0, DONE, 1);
        check.cell(program, 4, 0, DONE, 1);
    }

    private static void orderOfLooking() {
        for (char op : "+-*/%<=".toCharArray()) {
            check.outcome("hd(nil)" + op + "1/0", 0, EMPTY, 0);
            check.outcome("1/0" + op + "hd(nil)", 0, DIVIDE, 0);
            check.outcome("1" + op + "hd(nil)", 0, EMPTY, 0);
            check.outcome("1/0" + op + "(if yes then 1 else 2)", 0, DIVIDE, 0);
        }
        check.outcome("hd(nil)/0", 0, EMPTY, 0);
        check.outcome("-hd(nil)", 0, EMPTY, 0);
        check.outcome("!(1/0=1)", 0, DIVIDE, 0);
        LazyModules program = check.loaded(2, "A=A(x);B=1/0+A(x);C=A(x)+1/0;D=1/0=A(x);");
        check.cell(program, 1, 0, DIVIDE, 0);
        check.cell(program, 2, 0, LOOP, 0);
        check.cell(program, 3, 0, DIVIDE, 0);
    }

    private static void truths() {
        check.outcome("!yes", 0, DONE, 0);
        check.outcome("!no", 0, DONE, 1);
        String[] words = {"no", "yes"};
        for (int a = 0; a < 2; a++) {
            for (int b = 0; b < 2; b++) {
                check.outcome(words[a] + "&" + words[b], 0, DONE, a & b);
                check.outcome(words[a] + "|" + words[b], 0, DONE, a | b);
            }
        }
        check.outcome("no&1/0=1", 0, DONE, 0);
        check.outcome("yes&1/0=1", 0, DIVIDE, 0);
        check.outcome("yes|1/0=1", 0, DONE, 1);
        check.outcome("no|1/0=1", 0, DIVIDE, 0);
        check.outcome("1/0=1&no", 0, DIVIDE, 0);
        check.outcome("1/0=1|yes", 0, DIVIDE, 0);
        LazyModules program = check.loaded(2, "A=A(x)&no;B=no&B(x);C=yes|C(x);D=no|D(x);");
        check.cell(program, 0, 0, LOOP, 0);
        check.cell(program, 1, 0, DONE, 0);
        check.cell(program, 2, 0, DONE, 1);
        check.cell(program, 3, 0, LOOP, 0);
    }

    private static void branches() {
        check.outcome("if x<1 then 1/x else 8", 0, DIVIDE, 0);
        check.outcome("if x<1 then 1/0 else 8", 1, DONE, 8);
        check.outcome("if yes then 3 else 1/0", 1, DONE, 3);
        check.outcome("if 1/0=1 then 3 else 4", 1, DIVIDE, 0);
        check.outcome("if x<2 then yes else no", 2, DONE, 0);
    }

    private static void rescues() {
        check.outcome("try 1/0 else 4", 0, DONE, 4);
        check.outcome("try hd(nil) else 4", 0, DONE, 4);
        check.outcome("try A(6) else 4", 0, DONE, 4);
        check.outcome("try 3 else 1/0", 0, DONE, 3);
        check.outcome("try 1/0 else hd(nil)", 0, EMPTY, 0);
        check.outcome("try try 1/0 else hd(nil) else 6", 0, DONE, 6);
        check.outcome("try A(x) else 4", 0, LOOP, 0);
        check.outcome("try 1/0 else A(x)", 0, LOOP, 0);
        check.outcome("hd(try 1/0:nil else 5:nil)", 0, DIVIDE, 0);
    }

    private static void lists() {
        check.outcome("hd(nil)", 0, EMPTY, 0);
        check.outcome("tl(nil)", 0, EMPTY, 0);
        check.outcome("nul(nil)", 0, DONE, 1);
        check.outcome("nul(1/0:nil)", 0, DONE, 0);
        check.outcome("nul(tl(1:nil))", 0, DONE, 1);
        check.outcome("nul(tl(nil))", 0, EMPTY, 0);
        check.outcome("hd(tl(nil))", 0, EMPTY, 0);
        check.outcome("hd(1:tl(nil))", 0, DONE, 1);
        check.outcome("hd(1/0:nil)", 0, DIVIDE, 0);
        check.outcome("hd(tl(1/0:x:nil))", 4, DONE, 4);
        LazyModules program = check.loaded(6, "A=x:A(x+1);B=hd(tl(tl(A(x))));C=hd(A(3))+x;D=hd(E(x));E=tl(A(x-1));");
        check.cell(program, 1, 3, DONE, 5);
        check.cell(program, 1, 4, RANGE, 0);
        check.cell(program, 2, 5, DONE, 8);
        check.cell(program, 3, 0, RANGE, 0);
        check.cell(program, 3, 4, DONE, 4);
        check.cell(program, 4, 5, DONE, 1);
    }

    private static void calls() {
        LazyModules program = check.loaded(4, "A=x*10;B=A(x-1);C=A(1/x);D=A(A(x));");
        check.cell(program, 1, 0, RANGE, 0);
        check.cell(program, 1, 3, DONE, 20);
        check.cell(program, 2, 0, DIVIDE, 0);
        check.cell(program, 2, 1, DONE, 10);
        check.cell(program, 2, 2, DONE, 0);
        check.cell(program, 3, 0, DONE, 0);
        check.cell(program, 3, 1, RANGE, 0);
        check.outcome("if x=0 then 7 else A(65536*65536)", 1, RANGE, 0);
        check.outcome("if x=0 then 7 else A(65536*-65536)", 1, RANGE, 0);
    }

    private static void loops() {
        LazyModules program = check.loaded(6, "A=if x=5 then 1 else A(x+1)+A(x+1);B=B(x);C=C(5-x);D=try B(x) else 1;E=if x<3 then B(x) else x;");
        check.cell(program, 0, 0, DONE, 32);
        check.cell(program, 1, 0, LOOP, 0);
        check.cell(program, 2, 2, LOOP, 0);
        check.cell(program, 3, 0, LOOP, 0);
        check.cell(program, 4, 2, LOOP, 0);
        check.cell(program, 4, 3, DONE, 3);
        program = check.loaded(6, "A=if x%2=0 then B(x) else 5;B=A(5-x);C=hd(D(x));D=C(x):D(x);E=nul(D(x));");
        check.cell(program, 0, 0, DONE, 5);
        check.cell(program, 1, 1, DONE, 5);
        check.cell(program, 2, 0, LOOP, 0);
        check.cell(program, 3, 0, DONE, 1);
        check.cell(program, 4, 0, DONE, 0);
        check.outcome("A(A(x))", 0, LOOP, 0);
        check.outcome("tl(A(x))", 0, LOOP, 0);
        check.outcome("hd(1:tl(2:nil))+A(7)", 0, RANGE, 0);
    }

    private static void exampleOfReadme() {
        LazyModules program = check.loaded(6, "A=if x<1 then 1 else A(x-1)*x;B=x:B(x+1);");
        check.cell(program, 0, 5, DONE, 120);
        check.due("the third element of B(3)", program.itemValue(1, 3, 2), 5);
    }
}
