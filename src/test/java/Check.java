/** What the tests of the project share: counting wrong answers and putting texts. */
final class Check {
    private int wrong = 0;
    private int calls = 0;
    private String sentence = "";

    /** The words of the document that the answers from here on are held to. */
    void sentence(String words) {
        sentence = "[" + words + "] ";
    }

    void due(String what, long got, long want) {
        due(what, "" + got, "" + want);
    }

    void due(String what, String got, String want) {
        calls++;
        if (!got.equals(want)) {
            wrong++;
            System.out.println(sentence + what + " answered " + got + ", due is " + want);
        }
    }

    void due(String what, boolean got, boolean want) {
        due(what, got ? 1L : 0L, want ? 1L : 0L);
    }

    boolean isWrong() {
        return wrong > 0;
    }

    /** Ends the test with exit code 1 if an answer was wrong, or if nothing was asked. */
    void end() {
        System.out.println(calls + " answers, " + wrong + " wrong");
        if (wrong > 0 || calls == 0) {
            System.exit(1);
        }
    }

    /** A text that the program must take, put and loaded into a new object. */
    LazyModules loaded(int width, String text) {
        LazyModules program = new LazyModules(width);
        load(program, text);
        return program;
    }

    void load(LazyModules program, String text) {
        put(program, text);
        due("load of " + text, program.load(), LazyModules.OK);
        due("place after " + text, program.place(), -1);
    }

    void put(LazyModules program, String text) {
        for (int i = 0; i < text.length(); i++) {
            due("put " + i + " of " + text, program.put(text.charAt(i)), true);
        }
    }

    /** A text that a program must turn down; the buffer is emptied afterwards. */
    void refused(LazyModules program, String text, int finding, int place) {
        put(program, text);
        due("load of " + text, program.load(), finding);
        due("place after " + text, program.place(), place);
        due("wipe after " + text, program.wipe(), text.length());
    }

    void refused(String text, int finding, int place) {
        refused(new LazyModules(6), text, finding, place);
    }

    void cell(LazyModules program, int f, int x, int status, long value) {
        String at = "(" + f + ", " + x + ")";
        due("look" + at, program.look(f, x), status);
        due("value" + at, program.value(f, x), value);
    }

    /** What every call that changes nothing answers, but for the characters in the buffer, which no such call tells. */
    String state(LazyModules program, int width) {
        StringBuilder all = new StringBuilder("place " + program.place() + ", requests");
        for (int slot = 0; slot < 3; slot++) {
            all.append(' ').append(program.pending(slot));
        }
        for (int f = 0; f < 5; f++) {
            all.append(", kind ").append(program.kind(f)).append(':');
            for (int x = 0; x < width && program.kind(f) != 0; x++) {
                all.append(' ').append(program.look(f, x)).append('/').append(program.value(f, x));
                all.append('/').append(program.length(f, x)).append('/').append(program.itemValue(f, x, 0));
            }
        }
        return all.toString();
    }

    /** The outcome of one expression, as the cell of A at x with width 6. */
    void outcome(String expression, int x, int status, long value) {
        LazyModules program = loaded(6, "A=" + expression + ";");
        due("look, A=" + expression + " at " + x, program.look(0, x), status);
        due("value, A=" + expression + " at " + x, program.value(0, x), value);
    }
}
