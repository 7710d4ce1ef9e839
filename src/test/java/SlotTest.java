/** Promises 7 and 13 to 17: unload, and the slots with their requests. */
public final class SlotTest {
    private static final Check check = new Check();
    private static final int[] NO_SLOTS = {Integer.MIN_VALUE, -1, 3, 4, Integer.MAX_VALUE};

    public static void main(String[] args) {
        constants();
        unloading();
        unloadWithRequests();
        asking();
        working();
        workChangesNothing();
        answering();
        cancelling();
        requestsOutliveLoads();
        check.end();
    }

    private static void constants() {
        int[] got = {LazyModules.REFUSED, LazyModules.DONE, LazyModules.LOOP, LazyModules.DIVIDE, LazyModules.RANGE, LazyModules.EMPTY,
            LazyModules.INT, LazyModules.BOOL, LazyModules.LIST, LazyModules.OK, LazyModules.SCAN, LazyModules.SYNTAX,
            LazyModules.DOUBLE, LazyModules.LARGE, LazyModules.DEEP, LazyModules.UNKNOWN, LazyModules.CLASH};
        int[] due = {0, 1, 2, 3, 4, 5, 1, 2, 3, 1, 2, 3, 4, 5, 6, 7, 8};
        for (int i = 0; i < due.length; i++) {
            check.due("constant " + i, got[i], due[i]);
        }
    }

    private static void unload(LazyModules program, int f, boolean due) {
        check.due("unload(" + f + ")", program.unload(f), due);
    }

    private static void unloading() {
        LazyModules program = check.loaded(3, "A=if yes then 1 else B(x);B=B(x);C=D(0);D=C(0);");
        int[] none = {Integer.MIN_VALUE, -1, 4, 5, Integer.MAX_VALUE};
        for (int f : none) {
            unload(program, f, false);
        }
        unload(program, 1, false);
        check.cell(program, 1, 0, LazyModules.LOOP, 0);
        unload(program, 2, false);
        unload(program, 3, false);
        unload(program, 0, true);
        check.cell(program, 0, 0, LazyModules.REFUSED, 0);
        check.due("kind(0)", program.kind(0), 0);
        unload(program, 0, false);
        unload(program, 1, true);
        check.load(program, "D=8;");
        unload(program, 3, false);
        unload(program, 2, true);
        check.cell(program, 3, 2, LazyModules.DONE, 8);
        unload(program, 3, true);
        check.due("ask of what is unloaded", program.ask(0, 3, 0), false);
        check.load(program, "D=9;");
        check.cell(program, 3, 2, LazyModules.DONE, 9);
    }

    private static void unloadWithRequests() {
        LazyModules program = check.loaded(3, "A=x;B=x;C=x;");
        for (int slot = 0; slot < 3; slot++) {
            check.due("ask", program.ask(slot, slot, 2 - slot), true);
            unload(program, slot, false);
            check.cell(program, slot, 1, LazyModules.DONE, 1);
        }
        check.due("cancel(1)", program.cancel(1), true);
        unload(program, 1, true);
        check.due("answer(2)", program.answer(2), LazyModules.DONE);
        unload(program, 2, true);
        unload(program, 0, false);
    }

    private static void asking() {
        LazyModules program = check.loaded(3, "A=x;E=1/x;");
        for (int slot : NO_SLOTS) {
            check.due("ask(" + slot + ", 0, 0)", program.ask(slot, 0, 0), false);
            check.due("pending(" + slot + ")", program.pending(slot), -1);
        }
        int[] wrong = {Integer.MIN_VALUE, -1, 1, 3, 5, Integer.MAX_VALUE};
        for (int f : wrong) {
            check.due("ask(0, " + f + ", 0)", program.ask(0, f, 0), false);
        }
        int[] outside = {Integer.MIN_VALUE, -1, 3, Integer.MAX_VALUE};
        for (int x : outside) {
            check.due("ask(0, 0, " + x + ")", program.ask(0, 0, x), false);
        }
        check.due("pending(0)", program.pending(0), -1);
        check.due("ask(0, 4, 2)", program.ask(0, 4, 2), true);
        check.due("pending(0)", program.pending(0), 34);
        check.due("ask(0, 0, 1)", program.ask(0, 0, 1), false);
        check.due("pending(0)", program.pending(0), 34);
        check.due("ask(2, 0, 0)", program.ask(2, 0, 0), true);
        check.due("pending(2)", program.pending(2), 0);
        check.due("pending(1)", program.pending(1), -1);
        check.due("ask(1, 4, 2)", program.ask(1, 4, 2), true);
        check.due("pending(1)", program.pending(1), 34);
    }

    private static void working() {
        LazyModules program = check.loaded(3, "A=x;");
        check.due("work on a free slot", program.work(0, 1), false);
        check.due("ask", program.ask(0, 0, 0), true);
        int[] wrong = {Integer.MIN_VALUE, -1, 0, 61, Integer.MAX_VALUE};
        for (int steps : wrong) {
            check.due("work(0, " + steps + ")", program.work(0, steps), false);
        }
        for (int slot : NO_SLOTS) {
            check.due("work(" + slot + ", 1)", program.work(slot, 1), false);
        }
        check.due("work on another free slot", program.work(1, 1), false);
        check.due("work(0, 1)", program.work(0, 1), true);
        check.due("work(0, 60)", program.work(0, 60), true);
        check.due("pending after work", program.pending(0), 0);
        check.due("answer after work", program.answer(0), LazyModules.DONE);
        check.due("work after the answer", program.work(0, 1), false);
    }

    private static void workChangesNothing() {
        LazyModules program = check.loaded(6, "A=B(x)+1;B=A(x);C=x:C(x+1);");
        check.due("ask", program.ask(0, 0, 1), true);
        check.due("ask", program.ask(1, 1, 1), true);
        check.due("ask", program.ask(2, 2, 4), true);
        for (int steps = 1; steps <= 6; steps++) {
            check.due("work", program.work(steps % 3, steps), true);
            check.cell(program, 0, 1, LazyModules.LOOP, 0);
            check.cell(program, 1, 1, LazyModules.LOOP, 0);
            check.due("item", program.item(2, 4, 2), LazyModules.RANGE);
        }
        check.load(program, "B=x*x;");
        check.due("work", program.work(0, 2), true);
        check.due("answer(0)", program.answer(0), LazyModules.DONE);
        check.cell(program, 0, 2, LazyModules.DONE, 5);
    }

    private static void answering() {
        LazyModules program = check.loaded(3, "A=x;B=1/x;C=A(x+1);D=hd(nil);E=E(x);");
        for (int slot : NO_SLOTS) {
            check.due("answer(" + slot + ")", program.answer(slot), LazyModules.REFUSED);
        }
        int[] due = {LazyModules.DONE, LazyModules.DIVIDE, LazyModules.RANGE, LazyModules.EMPTY, LazyModules.LOOP};
        int[] argument = {0, 0, 2, 1, 1};
        for (int f = 0; f < 5; f++) {
            int slot = f % 3;
            check.due("answer of a free slot", program.answer(slot), LazyModules.REFUSED);
            check.due("ask", program.ask(slot, f, argument[f]), true);
            check.due("answer", program.answer(slot), due[f]);
            check.due("pending", program.pending(slot), -1);
        }
    }

    private static void cancelling() {
        LazyModules program = check.loaded(3, "A=x;");
        for (int slot : NO_SLOTS) {
            check.due("cancel(" + slot + ")", program.cancel(slot), false);
        }
        check.due("cancel of a free slot", program.cancel(1), false);
        check.due("ask", program.ask(1, 0, 2), true);
        check.due("cancel of another slot", program.cancel(0), false);
        check.due("pending", program.pending(1), 2);
        check.due("cancel", program.cancel(1), true);
        check.due("pending", program.pending(1), -1);
        check.due("cancel twice", program.cancel(1), false);
        check.due("ask again", program.ask(1, 0, 1), true);
        check.due("pending", program.pending(1), 1);
    }

    private static void requestsOutliveLoads() {
        LazyModules program = check.loaded(3, "A=1/x;B=A(x);");
        check.due("ask", program.ask(0, 1, 0), true);
        check.due("ask", program.ask(2, 0, 1), true);
        check.load(program, "A=A(x);");
        check.due("pending(0)", program.pending(0), 8);
        check.due("pending(2)", program.pending(2), 1);
        check.due("answer(0)", program.answer(0), LazyModules.LOOP);
        check.load(program, "A=nil;B=yes;");
        check.due("answer(2)", program.answer(2), LazyModules.DONE);
    }
}
