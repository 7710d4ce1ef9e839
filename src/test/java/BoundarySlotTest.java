import java.util.Random;

/** The boundary cases that promises 13 to 17 and the bound of 512 calls name, with a method for each sentence. */
public final class BoundarySlotTest {
    private static final Check check = new Check();
    private static final int REFUSED = LazyModules.REFUSED;
    private static final int DONE = LazyModules.DONE;
    private static final int MIN = Integer.MIN_VALUE;
    private static final int MAX = Integer.MAX_VALUE;

    /** Outside 0..2, also where only the low bits of the number are looked at. */
    private static final int[] NO_SLOTS = {MIN, MIN + 1, -256, -3, -1, 3, 4, 8, 256, 65536, MAX};
    private static final String FIVE = "A=x;B=1/x;C=A(x+1);D=hd(nil);E=E(x);";

    public static void main(String[] args) {
        asking();
        askSlotOutside();
        askSlotTaken();
        askLookRefused();
        workOnSlots();
        workSteps();
        nothingDependsOnWork();
        workAcrossLoads();
        answerRefused();
        answerAsNow();
        freeAfterAnswer();
        cancelling();
        cancelRefused();
        pendingRequests();
        pendingNone();
        lastOf512Calls();
        manyLoadsIn512Calls();
        check.end();
    }

    private static void ask(LazyModules program, int slot, int f, int x, boolean due) {
        check.due("ask(" + slot + ", " + f + ", " + x + ")", program.ask(slot, f, x), due);
    }

    private static void asking() {
        check.sentence("Puts a request for the cell of f at x into a slot");
        for (int width = 2; width <= 6; width++) {
            LazyModules program = check.loaded(width, FIVE);
            for (int f = 0; f < 5; f++) {
                for (int slot = 0; slot < 3; slot++) {
                    int x = (f + slot) % width;
                    ask(program, slot, f, x, true);
                    check.due("pending", program.pending(slot), f * 8 + x);
                }
                for (int slot = 0; slot < 3; slot++) {
                    check.due("answer", program.answer(slot), program.look(f, (f + slot) % width));
                }
            }
        }
    }

    private static void askSlotOutside() {
        check.sentence("False, changing nothing, if slot is outside 0..2");
        LazyModules program = check.loaded(3, FIVE);
        ask(program, 1, 1, 1, true);
        String before = check.state(program, 3);
        for (int slot : NO_SLOTS) {
            ask(program, slot, 0, 0, false);
        }
        check.due("state", check.state(program, 3), before);
        ask(program, 0, 0, 0, true);
        ask(program, 2, 0, 0, true);
    }

    private static void askSlotTaken() {
        check.sentence("or holds a request");
        for (int slot = 0; slot < 3; slot++) {
            LazyModules program = check.loaded(3, FIVE);
            ask(program, slot, 4, 2, true);
            String before = check.state(program, 3);
            ask(program, slot, 4, 2, false);
            ask(program, slot, 0, 0, false);
            ask(program, slot, 5, 0, false);
            check.due("state", check.state(program, 3), before);
            ask(program, (slot + 1) % 3, 4, 2, true);
            check.due("cancel", program.cancel(slot), true);
            ask(program, slot, 0, 0, true);
            ask(program, slot, 0, 0, false);
        }
    }

    private static void askLookRefused() {
        check.sentence("or look(f, x) is REFUSED");
        LazyModules program = check.loaded(3, "A=x;C=C(x);");
        String before = check.state(program, 3);
        int[] none = {MIN, -1, 1, 3, 4, 5, 8, 256, MAX};
        for (int f : none) {
            ask(program, 0, f, 0, false);
        }
        int[] outside = {MIN, -1, 3, 4, 5, 6, 8, 256, MAX};
        for (int x : outside) {
            ask(program, 0, 0, x, false);
        }
        check.due("state", check.state(program, 3), before);
        ask(program, 0, 0, 2, true);
        ask(program, 1, 2, 0, true);
        check.due("answer", program.answer(0), DONE);
        check.due("unload", program.unload(0), true);
        ask(program, 0, 0, 2, false);
    }

    private static void workOnSlots() {
        check.sentence("False if slot is outside 0..2 or free");
        LazyModules program = check.loaded(3, FIVE);
        for (int slot = 0; slot < 3; slot++) {
            check.due("work on a free slot", program.work(slot, 1), false);
            ask(program, slot, slot, 1, true);
            check.due("work on a slot with a request", program.work(slot, 1), true);
            for (int other : NO_SLOTS) {
                check.due("work(" + other + ", 1)", program.work(other, 1), false);
            }
        }
        check.due("cancel", program.cancel(0), true);
        check.due("work after cancel", program.work(0, 1), false);
        check.due("answer", program.answer(1), DONE);
        check.due("work after the answer", program.work(1, 1), false);
        check.due("work on the last", program.work(2, 1), true);
    }

    private static void workSteps() {
        check.sentence("or steps is outside 1..60; else true");
        LazyModules program = check.loaded(3, FIVE);
        ask(program, 0, 0, 0, true);
        ask(program, 1, 4, 0, true);
        String before = check.state(program, 3);
        int[] outside = {MIN, MIN + 1, -60, -1, 0, 61, 62, 64, 100, 256 + 1, 65536 + 1, MAX};
        for (int steps : outside) {
            check.due("work(0, " + steps + ")", program.work(0, steps), false);
            check.due("work(1, " + steps + ")", program.work(1, steps), false);
        }
        for (int steps = 1; steps <= 60; steps++) {
            check.due("work(0, " + steps + ")", program.work(0, steps), true);
            check.due("work(1, " + steps + ")", program.work(1, steps), true);
        }
        check.due("state", check.state(program, 3), before);
    }

    /** Two objects get the same calls, but only one of them works ahead. */
    private static void nothingDependsOnWork() {
        check.sentence("No other answer of any call, now or later, depends on it");
        String[] texts = {"A=B(x)+1;B=if x<1 then 0 else A(x-1);", "B=x:B((x+1)%4);", "A=hd(tl(B(x)));", "C=C(x)+A(x);", "A=D(x);D=A(x);",
            "B=A(x)/x;D=3;", "E=try C(x) else 5;C=A(5-x);", "A=1/(x-1);", "C=#;", "A=A(x)&C(x);", "B=1:tl(B(x));", "D=nil;E=hd(D(x));"};
        for (int seed = 0; seed < 60; seed++) {
            Random random = new Random(seed);
            LazyModules plain = new LazyModules(4);
            LazyModules ahead = new LazyModules(4);
            for (int turn = 0; turn < 5; turn++) {
                String text = texts[random.nextInt(texts.length)];
                for (char c : text.toCharArray()) {
                    check.due("put", ahead.put(c), plain.put(c));
                }
                check.due("load", ahead.load(), plain.load());
                check.due("place", ahead.place(), plain.place());
                check.due("wipe", ahead.wipe(), plain.wipe());
                for (int i = 0; i < 6; i++) {
                    someRequest(random, ahead, plain);
                }
            }
            check.due("state, seed " + seed, check.state(ahead, 4), check.state(plain, 4));
        }
    }

    private static void someRequest(Random random, LazyModules ahead, LazyModules plain) {
        int slot = random.nextInt(3);
        int f = random.nextInt(5);
        int x = random.nextInt(4);
        check.due("ask", ahead.ask(slot, f, x), plain.ask(slot, f, x));
        ahead.work(random.nextInt(3), random.nextInt(62));
        ahead.work(slot, 1 + random.nextInt(3));
        switch (random.nextInt(4)) {
            case 0 -> check.due("answer", ahead.answer(slot), plain.answer(slot));
            case 1 -> check.due("cancel", ahead.cancel(slot), plain.cancel(slot));
            case 2 -> check.due("unload", ahead.unload(f), plain.unload(f));
            default -> check.due("look", ahead.look(f, x), plain.look(f, x));
        }
        check.due("pending", ahead.pending(slot), plain.pending(slot));
    }

    private static void workAcrossLoads() {
        check.sentence("Works ahead on a slot's request, by up to that many steps");
        for (int steps = 1; steps <= 60; steps++) {
            LazyModules program = check.loaded(6, "A=if x<1 then 1/0 else A(x-1)+1;B=A(x)*2;");
            ask(program, 0, 1, 5, true);
            check.due("work", program.work(0, steps), true);
            check.load(program, "A=if x<1 then 7 else A(x-1)+1;");
            check.due("work", program.work(0, steps), true);
            check.cell(program, 1, 5, DONE, 24);
            check.due("answer", program.answer(0), DONE);
            ask(program, 1, 1, 3, true);
            check.due("work", program.work(1, steps), true);
            check.load(program, "A=A(x);");
            check.due("answer", program.answer(1), LazyModules.LOOP);
        }
    }

    private static void answerRefused() {
        check.sentence("REFUSED if slot is outside 0..2 or free");
        LazyModules program = check.loaded(3, FIVE);
        for (int slot = 0; slot < 3; slot++) {
            check.due("answer of a free slot", program.answer(slot), REFUSED);
            ask(program, slot, 0, slot, true);
        }
        String before = check.state(program, 3);
        for (int slot : NO_SLOTS) {
            check.due("answer(" + slot + ")", program.answer(slot), REFUSED);
        }
        check.due("state", check.state(program, 3), before);
    }

    private static void answerAsNow() {
        check.sentence("the status of the cell asked for, as the functions loaded now give it");
        String[] bodies = {"x", "1/0", "C(7)", "hd(nil)", "B(x)", "nil", "yes"};
        int[] due = {DONE, LazyModules.DIVIDE, LazyModules.RANGE, LazyModules.EMPTY, LazyModules.LOOP, DONE, DONE};
        for (int before = 0; before < bodies.length; before++) {
            for (int after = 0; after < bodies.length; after++) {
                LazyModules program = check.loaded(3, "A=" + bodies[before] + ";B=A(x);C=x;");
                ask(program, 0, 1, 2, true);
                ask(program, 2, 0, 1, true);
                check.due("look", program.look(1, 2), due[before]);
                check.load(program, "A=" + bodies[after] + ";");
                check.due("answer(0)", program.answer(0), due[after]);
                check.due("answer(2)", program.answer(2), due[after]);
            }
        }
    }

    private static void freeAfterAnswer() {
        check.sentence("the slot is free afterwards");
        for (int f = 0; f < 5; f++) {
            LazyModules program = check.loaded(3, FIVE);
            for (int slot = 0; slot < 3; slot++) {
                ask(program, slot, f, 0, true);
            }
            for (int slot = 0; slot < 3; slot++) {
                check.due("answer", program.answer(slot), program.look(f, 0));
                check.due("pending", program.pending(slot), -1);
                check.due("work", program.work(slot, 1), false);
                check.due("cancel", program.cancel(slot), false);
                check.due("answer again", program.answer(slot), REFUSED);
                check.due("the next slot", program.pending((slot + 1) % 3), slot < 2 ? f * 8 : -1);
            }
            ask(program, 1, f, 2, true);
            check.due("pending again", program.pending(1), f * 8 + 2);
        }
    }

    private static void cancelling() {
        check.sentence("Drops a slot's request");
        for (int slot = 0; slot < 3; slot++) {
            LazyModules program = check.loaded(3, FIVE);
            for (int all = 0; all < 3; all++) {
                ask(program, all, all, 2, true);
            }
            check.due("cancel", program.cancel(slot), true);
            for (int all = 0; all < 3; all++) {
                check.due("pending", program.pending(all), all == slot ? -1 : all * 8 + 2);
            }
            check.due("work", program.work(slot, 1), false);
            check.due("answer", program.answer(slot), REFUSED);
            ask(program, slot, 4, 1, true);
            check.due("pending", program.pending(slot), 33);
        }
    }

    private static void cancelRefused() {
        check.sentence("cancel: False, changing nothing, if slot is outside 0..2 or free");
        LazyModules program = check.loaded(3, FIVE);
        for (int slot = 0; slot < 3; slot++) {
            check.due("cancel of a free slot", program.cancel(slot), false);
        }
        ask(program, 0, 0, 1, true);
        ask(program, 2, 1, 1, true);
        String before = check.state(program, 3);
        for (int slot : NO_SLOTS) {
            check.due("cancel(" + slot + ")", program.cancel(slot), false);
        }
        check.due("cancel of a free slot", program.cancel(1), false);
        check.due("state", check.state(program, 3), before);
        check.due("cancel", program.cancel(0), true);
        check.due("cancel twice", program.cancel(0), false);
    }

    private static void pendingRequests() {
        check.sentence("f * 8 + x of a slot's request");
        LazyModules program = check.loaded(6, FIVE);
        for (int f = 0; f < 5; f++) {
            for (int x = 0; x < 6; x++) {
                int slot = (f + x) % 3;
                ask(program, slot, f, x, true);
                check.due("pending", program.pending(slot), f * 8 + x);
                check.due("pending again", program.pending(slot), f * 8 + x);
                check.due("cancel", program.cancel(slot), true);
            }
        }
    }

    private static void pendingNone() {
        check.sentence("-1 if slot is outside 0..2 or free");
        LazyModules program = check.loaded(3, FIVE);
        for (int slot = 0; slot < 3; slot++) {
            check.due("pending of a free slot", program.pending(slot), -1);
            ask(program, slot, 0, 0, true);
            check.due("pending of the first cell", program.pending(slot), 0);
        }
        for (int slot : NO_SLOTS) {
            check.due("pending(" + slot + ")", program.pending(slot), -1);
        }
    }

    private static void lastOf512Calls() {
        check.sentence("An object is used for at most 512 calls after it has been made");
        LazyModules program = new LazyModules(6);
        String text = "A=if x<1 then 1 else A(x-1)*x;B=x:B((x+1)%6);";
        check.put(program, text);
        check.due("load", program.load(), LazyModules.OK);
        int calls = text.length() + 1;
        while (calls + 5 <= 508) {
            ask(program, calls % 3, calls % 2, calls % 6, true);
            check.due("work", program.work(calls % 3, 60), true);
            check.due("answer", program.answer(calls % 3), DONE);
            check.due("item", program.itemValue(1, calls % 6, 31), (calls + 31) % 6);
            check.due("length", program.length(1, calls % 6), -1);
            calls += 5;
        }
        while (calls < 508) {
            check.due("wipe", program.wipe(), 0);
            calls++;
        }
        check.due("the 509th call", program.value(0, 5), 120);
        check.due("the 510th call", program.ask(2, 0, 5), true);
        check.due("the 511th call", program.put('A'), true);
        check.due("the 512th call", program.answer(2), DONE);
    }

    /** As many loads as there can be: the texts are the shortest ones that define something, or nothing at all. */
    private static void manyLoadsIn512Calls() {
        check.sentence("An object is used for at most 512 calls after it has been made");
        LazyModules program = new LazyModules(2);
        for (int turn = 0; turn < 85; turn++) {
            check.put(program, (char) ('A' + turn % 5) + "=" + turn % 10 + ";");
            check.due("load " + turn, program.load(), LazyModules.OK);
            check.due("value " + turn, program.value(turn % 5, 1), turn % 10);
        }
        check.due("the 511th call", program.load(), LazyModules.SYNTAX);
        check.due("the 512th call", program.value(4, 0), 4);
        program = new LazyModules(2);
        for (int call = 0; call < 511; call++) {
            check.due("load of nothing", program.load(), LazyModules.SYNTAX);
        }
        check.due("the 512th call", program.place(), 0);
    }
}
