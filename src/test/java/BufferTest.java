/** Promises 1 to 3: a new object, put and wipe. */
public final class BufferTest {
    private static final Check check = new Check();

    public static void main(String[] args) {
        newObject();
        widthIsClipped();
        charactersTaken();
        fullBuffer();
        wiping();
        check.end();
    }

    private static void newObject() {
        LazyModules program = new LazyModules(4);
        for (int f = -1; f <= 5; f++) {
            check.due("kind of a new object", program.kind(f), 0);
            check.due("look of a new object", program.look(f, 0), LazyModules.REFUSED);
        }
        for (int slot = -1; slot <= 3; slot++) {
            check.due("pending of a new object", program.pending(slot), -1);
        }
        check.due("place of a new object", program.place(), -1);
        check.due("wipe of a new object", program.wipe(), 0);
    }

    private static void widthIsClipped() {
        int[] given = {Integer.MIN_VALUE, -1, 0, 1, 2, 3, 4, 5, 6, 7, Integer.MAX_VALUE};
        int[] due = {2, 2, 2, 2, 2, 3, 4, 5, 6, 6, 6};
        for (int i = 0; i < given.length; i++) {
            LazyModules program = check.loaded(given[i], "A=x;B=A(x+1);");
            check.cell(program, 0, due[i] - 1, LazyModules.DONE, due[i] - 1);
            check.cell(program, 0, due[i], LazyModules.REFUSED, 0);
            check.cell(program, 1, due[i] - 2, LazyModules.DONE, due[i] - 1);
            check.cell(program, 1, due[i] - 1, LazyModules.RANGE, 0);
        }
    }

    private static void charactersTaken() {
        int[] wrong = {Integer.MIN_VALUE, -1, 0, 10, 31, 127, 128, 65 + 256, Integer.MAX_VALUE};
        LazyModules program = new LazyModules(2);
        for (int c : wrong) {
            check.due("put(" + c + ")", program.put(c), false);
        }
        check.due("wipe after wrong characters", program.wipe(), 0);
        for (int c = 32; c <= 126; c++) {
            check.due("put(" + c + ")", program.put(c), true);
        }
        check.due("wipe after all characters", program.wipe(), 95);
    }

    private static void fullBuffer() {
        LazyModules program = new LazyModules(2);
        String module = "A=x;" + " ".repeat(192) + "B=7;";
        check.put(program, module);
        check.due("put into the full buffer", program.put('+'), false);
        check.due("load of 200 characters", program.load(), LazyModules.OK);
        check.cell(program, 1, 0, LazyModules.DONE, 7);
        check.put(program, "A".repeat(200));
        check.due("put into the full buffer again", program.put(' '), false);
        check.due("wipe of the full buffer", program.wipe(), 200);
        check.due("put after wipe", program.put('A'), true);
    }

    private static void wiping() {
        LazyModules program = check.loaded(2, "A=x;");
        check.due("wipe after a load that was OK", program.wipe(), 0);
        check.put(program, "A=1;");
        check.due("wipe", program.wipe(), 4);
        check.due("wipe twice", program.wipe(), 0);
        check.load(program, "B=2;");
        check.cell(program, 0, 1, LazyModules.DONE, 1);
        check.cell(program, 1, 1, LazyModules.DONE, 2);
    }
}
