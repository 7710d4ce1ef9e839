import java.util.Random;

/** All promises: the same calls on the program and on the oracle, over many texts, sound ones and spoilt ones. */
public final class OracleTest {
    private static final int RUNS = 1200;
    private static final int CALL_LIMIT = 512;
    private static final int CALLS_AFTER_TEXT = 25;
    private static final int CALLS_AT_END = 95;
    /** A few more than the buffer holds. */
    private static final int LONGEST_TEXT = 210;
    private static final String[] KINDS = {"", "INT", "BOOL", "LIST"};

    private final Check check;
    private final Random random;
    private final LazyModules program;
    private final Oracle oracle;
    private final StringBuilder history = new StringBuilder();
    private final int[] planned = new int[5];
    private int calls = 0;

    private OracleTest(Check check, long seed) {
        this.check = check;
        // A set seed: the same calls each time.
        random = new Random(seed);
        int width = random.nextInt(10) - 1;
        program = new LazyModules(width);
        oracle = new Oracle(width);
        history.append("width ").append(width);
        for (int f = 0; f < 5; f++) {
            planned[f] = 1 + random.nextInt(3);
        }
    }

    public static void main(String[] args) {
        Check check = new Check();
        int runs = args.length > 0 ? Integer.parseInt(args[0]) : RUNS;
        int[] findings = new int[9];
        int[] statuses = new int[6];
        for (int seed = 0; seed < runs && !check.isWrong(); seed++) {
            OracleTest test = new OracleTest(check, seed);
            test.run(findings, statuses);
            if (check.isWrong()) {
                System.out.println("seed " + seed + ": " + test.history);
            }
        }
        for (int finding = 1; finding <= 8; finding++) {
            // What hardly ever comes up would be hardly tested.
            check.due("finding " + finding + " came up", findings[finding] >= 20, true);
        }
        for (int status = 0; status <= 5; status++) {
            check.due("status " + status + " came up", statuses[status] >= 20, true);
        }
        check.end();
    }

    private void run(int[] findings, int[] statuses) {
        String text = text();
        while (calls + text.length() + 3 + CALLS_AFTER_TEXT + CALLS_AT_END <= CALL_LIMIT) {
            putText(text);
            int finding = program.load();
            findings[finding]++;
            note("load", finding, oracle.load());
            note("place", program.place(), oracle.place());
            if (finding != LazyModules.OK) {
                note("wipe", program.wipe(), oracle.wipe());
            }
            for (int i = 0; i < CALLS_AFTER_TEXT; i++) {
                someCall();
            }
            text = text();
        }
        lookAtAll(statuses);
    }

    private void note(String call, long got, long want) {
        calls++;
        if (got != want) {
            history.append(" HERE");
        }
        check.due(call, got, want);
    }

    private void note(String call, boolean got, boolean want) {
        note(call, got ? 1L : 0L, want ? 1L : 0L);
    }

    private void putText(String text) {
        history.append("\n  ").append(text);
        for (char c : text.toCharArray()) {
            note("put", program.put(c), oracle.put(c));
        }
    }

    private void lookAtAll(int[] statuses) {
        for (int f = 0; f < 5; f++) {
            check.due("kind " + f, program.kind(f), oracle.kind(f));
            for (int x = 0; x < 6; x++) {
                int status = program.look(f, x);
                statuses[status]++;
                check.due("look " + f + " " + x, status, oracle.look(f, x));
                check.due("value " + f + " " + x, program.value(f, x), oracle.value(f, x));
                check.due("length " + f + " " + x, program.length(f, x), oracle.length(f, x));
            }
        }
    }

    private int around(int bound) {
        return random.nextInt(12) == 0 ? random.nextInt(bound + 4) - 2 : random.nextInt(bound);
    }

    private void someCall() {
        int f = around(5);
        int x = around(6);
        int k = random.nextBoolean() ? around(5) : around(32);
        int slot = around(3);
        int steps = around(61);
        String all = " f=" + f + " x=" + x + " k=" + k + " slot=" + slot + " steps=" + steps;
        // Unloading comes up less often than the rest, so that something is loaded most of the time.
        switch (random.nextInt(80) == 0 ? 0 : 1 + random.nextInt(12)) {
            case 1 -> note("kind" + all, program.kind(f), oracle.kind(f));
            case 0 -> note("unload" + all, program.unload(f), oracle.unload(f));
            case 2 -> note("look" + all, program.look(f, x), oracle.look(f, x));
            case 3 -> note("value" + all, program.value(f, x), oracle.value(f, x));
            case 4 -> note("item" + all, program.item(f, x, k), oracle.item(f, x, k));
            case 5 -> note("itemValue" + all, program.itemValue(f, x, k), oracle.itemValue(f, x, k));
            case 6 -> note("length" + all, program.length(f, x), oracle.length(f, x));
            case 7 -> note("ask" + all, program.ask(slot, f, x), oracle.ask(slot, f, x));
            case 8 -> note("work" + all, program.work(slot, steps), oracle.work(slot, steps));
            case 9 -> note("answer" + all, program.answer(slot), oracle.answer(slot));
            case 10 -> note("cancel" + all, program.cancel(slot), oracle.cancel(slot));
            case 11 -> note("pending" + all, program.pending(slot), oracle.pending(slot));
            default -> note("place" + all, program.place(), oracle.place());
        }
    }

    private String text() {
        StringBuilder text = new StringBuilder();
        int defs = 1 + random.nextInt(5);
        int f = random.nextInt(5);
        for (int d = 0; d < defs; d++) {
            int kind = planned[f];
            text.append((char) ('A' + f)).append('=').append(expr(kind, 1 + random.nextInt(4))).append(';');
            f = random.nextInt(12) == 0 ? random.nextInt(5) : (f + 1) % 5;
        }
        int spoilt = random.nextInt(3) == 0 ? 1 + random.nextInt(2) : 0;
        for (int i = 0; i < spoilt; i++) {
            spoil(text);
        }
        if (random.nextInt(15) == 0) {
            text.append("E=").append("-".repeat(6 + random.nextInt(4))).append("x;");
        }
        return text.substring(0, Math.min(text.length(), LONGEST_TEXT));
    }

    private void spoil(StringBuilder text) {
        String[] bits = {"+", "-", "x", "if ", " then ", " else ", "try ", "(", ")", ":", ";", "A", "B(x)", "=", "nil", "!", " ",
            "yes", "#", "q", "1234567", "&", "|", "<", "hd(", "tl", "nul("};
        int place = text.isEmpty() ? 0 : random.nextInt(text.length());
        int end = Math.min(text.length(), place + random.nextInt(3));
        text.replace(place, end, random.nextInt(4) == 0 ? "" : bits[random.nextInt(bits.length)]);
    }

    private String pick(String... all) {
        return all[random.nextInt(all.length)];
    }

    /** A function planned to have this kind, called near its argument so that cells rest on each other. */
    private String call(int kind, int depth) {
        int from = random.nextInt(5);
        for (int i = 0; i < 5; i++) {
            int f = (from + i) % 5;
            if (planned[f] == kind) {
                String argument = pick("x", "x+1", "x-1", "5-x", "(x+1)%3", "0", expr(1, depth - 1));
                return (char) ('A' + f) + "(" + argument + ")";
            }
        }
        return leaf(kind);
    }

    private String leaf(int kind) {
        return switch (KINDS[kind]) {
            case "INT" -> pick("x", "x", "x", "0", "1", "2", "7", "999999999", "(1/x)", "(7%(x-1))");
            case "BOOL" -> pick("yes", "no", "x<2", "x=1");
            default -> pick("nil", "(x:nil)", "(hd(nil):nil)");
        };
    }

    private String expr(int wanted, int depth) {
        int kind = random.nextInt(80) == 0 ? 1 + random.nextInt(3) : wanted;
        if (depth <= 0 || random.nextInt(8) == 0) {
            return leaf(kind);
        }
        int d = depth - 1;
        switch (random.nextInt(8)) {
            case 0:
                return "(if " + expr(2, d) + " then " + expr(kind, d) + " else " + expr(kind, d) + ")";
            case 1:
                return "(try " + expr(kind, d) + " else " + expr(kind, d) + ")";
            case 2: case 3: case 4:
                return call(kind, d);
            default:
                break;
        }
        return switch (KINDS[kind]) {
            case "INT" -> pick(expr(1, d) + pick("+", "-", "*", "/", "%") + expr(1, d), "-" + expr(1, d), "hd(" + expr(3, d) + ")");
            case "BOOL" -> pick(expr(1, d) + pick("<", "=") + expr(1, d), "(" + expr(2, d) + pick("&", "|") + expr(2, d) + ")",
                "!(" + expr(2, d) + ")", "nul(" + expr(3, d) + ")", "(" + expr(2, d) + ")=(" + expr(2, d) + ")");
            default -> pick("tl(" + expr(3, d) + ")", "(" + expr(1, d) + ":" + expr(3, d) + ")", "(" + expr(1, d) + ":" + call(3, d) + ")");
        };
    }
}
