/** Promises 10 to 12: the elements and the length of a list. */
public final class ListTest {
    private static final Check check = new Check();
    private static final int DONE = LazyModules.DONE;
    private static final int LOOP = LazyModules.LOOP;
    private static final int DIVIDE = LazyModules.DIVIDE;
    private static final int RANGE = LazyModules.RANGE;
    private static final int EMPTY = LazyModules.EMPTY;
    private static final int REFUSED = LazyModules.REFUSED;

    public static void main(String[] args) {
        refusals();
        finiteList();
        elementsThatFail();
        listsThatFail();
        endlessLists();
        longLists();
        argumentsOfLists();
        check.end();
    }

    private static void item(LazyModules program, int f, int x, int k, int status, long value) {
        String at = "(" + f + ", " + x + ", " + k + ")";
        check.due("item" + at, program.item(f, x, k), status);
        check.due("itemValue" + at, program.itemValue(f, x, k), value);
    }

    private static void length(LazyModules program, int f, int x, int due) {
        check.due("length(" + f + ", " + x + ")", program.length(f, x), due);
    }

    private static void refusals() {
        LazyModules program = check.loaded(3, "A=7:A(x);B=x;C=yes;D=D(x);");
        int[] wrong = {Integer.MIN_VALUE, -1, 1, 2, 3, 4, 5, Integer.MAX_VALUE};
        for (int f : wrong) {
            item(program, f, 0, 0, REFUSED, 0);
            length(program, f, 0, -2);
        }
        int[] outside = {Integer.MIN_VALUE, -1, 3, Integer.MAX_VALUE};
        for (int x : outside) {
            item(program, 0, x, 0, REFUSED, 0);
            length(program, 0, x, -2);
        }
        int[] far = {Integer.MIN_VALUE, -1, 32, 33, Integer.MAX_VALUE};
        for (int k : far) {
            item(program, 0, 0, k, REFUSED, 0);
        }
        item(program, 0, 2, 0, DONE, 7);
        item(program, 0, 2, 31, DONE, 7);
    }

    private static void finiteList() {
        LazyModules program = check.loaded(3, "A=4:x:6:nil;B=nil;");
        item(program, 0, 1, 0, DONE, 4);
        item(program, 0, 1, 1, DONE, 1);
        item(program, 0, 2, 1, DONE, 2);
        item(program, 0, 1, 2, DONE, 6);
        item(program, 0, 1, 3, EMPTY, 0);
        item(program, 0, 1, 4, EMPTY, 0);
        item(program, 0, 1, 31, EMPTY, 0);
        length(program, 0, 1, 3);
        item(program, 1, 1, 0, EMPTY, 0);
        item(program, 1, 1, 31, EMPTY, 0);
        length(program, 1, 1, 0);
    }

    private static void elementsThatFail() {
        LazyModules program = check.loaded(3, "A=1/x:hd(nil):hd(B(3)):nil;B=hd(C(x)):nil;C=B(x);D=hd(D(x)):5:nil;");
        item(program, 0, 0, 0, DIVIDE, 0);
        item(program, 0, 1, 0, DONE, 1);
        length(program, 0, 0, 3);
        item(program, 0, 0, 1, EMPTY, 0);
        item(program, 0, 0, 2, RANGE, 0);
        item(program, 1, 0, 0, LOOP, 0);
        item(program, 1, 0, 1, EMPTY, 0);
        length(program, 2, 0, 1);
        item(program, 3, 0, 0, LOOP, 0);
        item(program, 3, 0, 1, DONE, 5);
        length(program, 3, 0, 2);
    }

    private static void listsThatFail() {
        LazyModules program = check.loaded(3, "A=tl(nil);B=1:A(x);C=if 1/x=1 then nil else 3:nil;D=try D(x) else nil;E=2:tl(E(x));");
        item(program, 0, 0, 0, EMPTY, 0);
        length(program, 0, 0, -1);
        item(program, 1, 0, 0, DONE, 1);
        item(program, 1, 0, 1, EMPTY, 0);
        item(program, 1, 0, 9, EMPTY, 0);
        length(program, 1, 0, -1);
        item(program, 3, 0, 0, LOOP, 0);
        item(program, 3, 0, 31, LOOP, 0);
        item(program, 2, 0, 5, DIVIDE, 0);
        length(program, 2, 0, -1);
        length(program, 2, 1, 0);
        length(program, 3, 0, -1);
        item(program, 4, 0, 0, DONE, 2);
        item(program, 4, 0, 1, LOOP, 0);
        length(program, 4, 0, -1);
    }

    private static void endlessLists() {
        LazyModules program = check.loaded(6, "A=1:A(x);B=x:B((x+1)%6);C=x:C(x+1);");
        length(program, 0, 0, -1);
        item(program, 1, 2, 31, DONE, 3);
        length(program, 1, 2, -1);
        item(program, 2, 3, 2, DONE, 5);
        item(program, 2, 3, 3, RANGE, 0);
        item(program, 2, 3, 4, RANGE, 0);
        length(program, 2, 3, -1);
    }

    /** A and B hold 18 elements each from x = 0 on, so the list of A at 0 has 36 more than that of C at 0. */
    private static void longLists() {
        String two = "A=1:2:3:if x<5 then A(x+1) else B(0);B=4:5:6:if x<5 then B(x+1) else C(0);";
        LazyModules program = check.loaded(6, two + "C=x:if x<2 then C(x+1) else nil;");
        length(program, 0, 0, 39);
        check.load(program, "C=x:if x<3 then C(x+1) else nil;");
        length(program, 0, 0, 40);
        item(program, 0, 0, 31, DONE, 5);
        check.load(program, "C=x:if x<4 then C(x+1) else nil;");
        length(program, 0, 0, -1);
        length(program, 0, 1, 38);
        check.load(program, "C=x:if x<3 then C(x+1) else tl(nil);");
        length(program, 0, 0, -1);
    }

    private static void argumentsOfLists() {
        LazyModules program = check.loaded(4, "A=x:B(x);B=x*10:if x<3 then A(x+1) else nil;C=tl(tl(A(x)));D=A(3-x);");
        item(program, 0, 1, 0, DONE, 1);
        item(program, 0, 1, 1, DONE, 10);
        item(program, 0, 1, 2, DONE, 2);
        item(program, 2, 1, 0, DONE, 2);
        item(program, 2, 1, 3, DONE, 30);
        length(program, 2, 1, 4);
        item(program, 3, 1, 1, DONE, 20);
        length(program, 3, 3, 8);
        check.cell(program, 2, 3, DONE, 0);
        check.cell(program, 2, 2, DONE, 1);
    }
}
