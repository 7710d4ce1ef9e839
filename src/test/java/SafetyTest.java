import java.util.ArrayList;
import java.util.Collections;
import java.util.List;
import java.util.Random;

/**
 * Rule 7 of LANGUAGE.md: no call may ever throw, for any arguments in any state. What the calls answer is for the other
 * tests; here an object is also used beyond its 512th call, where answers are free but the rule still holds.
 */
public final class SafetyTest {
    private static final int[] NUMBERS = {Integer.MIN_VALUE, Integer.MIN_VALUE + 1, -720, -120, -25, -8, -3, -2, -1,
        0, 1, 2, 3, 4, 5, 6, 7, 8, 23, 24, 25, 31, 32, 33, 39, 40, 41, 59, 60, 61, 119, 120, 126, 127, 199, 200, 201, 243, 255, 256,
        320, 719, 720, 721, 960, 65535, 65536, Integer.MAX_VALUE - 1, Integer.MAX_VALUE};
    private static final String[] TOKENS = {"x", "nil ", "yes ", "no ", "7", "123456789 ", "if ", "then ", "else ", "try ",
        "hd", "tl", "nul", "A", "B", "E", "+", "-", "*", "/", "%", "<", "=", "&", "|", "!", ":", ";", "(", ")"};
    private static final String[] STARTS = {"", "A", "A=", "A=x", "A=if ", "A=if x then ", "A=if x then x else ", "A=try ",
        "A=hd", "A=hd(", "A=x:", "A=x;"};
    /** Each def as large, as deep or as long as it may be, or looking at lists that end, fail or go round. */
    private static final String[] MODULES = {
        "A=x;", "A=yes;", "A=nil;", "A=A(x);B=B(x);C=C(x);D=D(x);E=E(x);",
        "A=x*x+x*x+x*x+x*x+x*x+-x*x;", "E=x*x+x*x+x*x+x*x+x*x+-x*x;", "A=-------x;", "E=tl(tl(tl(tl(tl(tl(E(x)))))));",
        "A=1:2:3:A(x);", "E=x:x:x:E(x+1);", "B=x:C(x);C=x:D(x);D=x:B((x+1)%6);", "C=hd(C(x)):tl(C(x));",
        "A=0;B=1/x:B(x-1);C=hd(B(x));D=nul(tl(B(x)));E=E(A(x)-1);", "A=x%(x-3);B=(0-999999999*999999999)/(x-1);",
        "D=try hd(D(x)):nil else tl(D(x));", "A=if B(x)<x then E(x) else E(B(x));B=x-x;E=try 1/x else 7;",
        "E=if x=5 then nil else x:E(x+1);", "B=try B(x-1) else nil;", "A=A(x-999999999);", "E=E(x+999999999);",
        "A=A(0-x*999999999*999999999);", "E=E(x*999999999*999999999);"};
    /** What would lead an index astray if it were taken where it must be refused. */
    private static final String[] SPOILT = {"E=A(x);", "A=E(x);", "A=x;".repeat(50), "E=x*x+x*x+x*x+x*x+x*x+x*x*(x+x);",
        "E=x:x:x:x:E(x);", "E=--------x;", "E=hd(9);", "E=tl(9);", "E=hd(yes);", "E=9:9;", "E=hd(E(x)+1);", "E=if 9 then 9 else nil;",
        "E=tl(if yes then nil else 9);", "E=tl(try nil else 9);", "E=hd(x:9);", "E=tl(9:9);"};

    private final Check check = new Check();
    private final Random random = new Random(7);
    private LazyModules program = new LazyModules(6);
    private String state = "";

    public static void main(String[] args) {
        new SafetyTest().run();
    }

    private void run() {
        for (int width : NUMBERS) {
            attempt("a new object of width " + width, () -> {
                program = new LazyModules(width);
                readAll();
                changeAll();
            });
        }
        for (String module : MODULES) {
            attempt("after " + module, () -> inEveryWidth(module));
        }
        for (String text : SPOILT) {
            attempt("after " + text, () -> afterSpoilt(text));
        }
        for (String start : STARTS) {
            attempt("full buffers that start with " + start, () -> fullBuffers(start));
        }
        for (int walk = 0; walk < 150; walk++) {
            attempt("walk " + walk, this::walk);
        }
        for (int life = 0; life < 20; life++) {
            attempt("life " + life, this::longLife);
        }
        check.end();
    }

    private void attempt(String what, Runnable calls) {
        state = "";
        String thrown = "nothing";
        try {
            calls.run();
        } catch (RuntimeException | StackOverflowError e) {
            thrown = e + " at " + e.getStackTrace()[0] + ", " + state;
        }
        check.due(what + ": thrown", thrown, "nothing");
    }

    /** Every call that changes nothing, with every number wherever it takes one. */
    private void readAll() {
        program.place();
        for (int a : NUMBERS) {
            program.kind(a);
            program.pending(a);
            for (int b : NUMBERS) {
                program.look(a, b);
                program.value(a, b);
                program.length(a, b);
                program.work(a, b);
                for (int k : NUMBERS) {
                    program.item(a, b, k);
                    program.itemValue(a, b, k);
                }
            }
        }
    }

    /** The slots are taken by the first calls, so that the later ones meet taken slots too. */
    private void changeAll() {
        for (int a : NUMBERS) {
            for (int b : NUMBERS) {
                for (int slot : NUMBERS) {
                    program.ask(slot, a, b);
                }
            }
        }
        for (int a : NUMBERS) {
            program.unload(a);
            program.put(a);
            program.load();
            program.answer(a);
            program.cancel(a);
        }
        for (int a : NUMBERS) {
            program.unload(a);
        }
        program.wipe();
        program.load();
    }

    private int loadText(String text) {
        state = text;
        program.wipe();
        for (int i = 0; i < text.length(); i++) {
            program.put(text.charAt(i));
        }
        return program.load();
    }

    private void inEveryWidth(String module) {
        for (int width = 2; width <= 6; width++) {
            program = new LazyModules(width);
            check.due("load of " + module, loadText(module), LazyModules.OK);
            readAll();
            changeAll();
            readAll();
        }
    }

    private void afterSpoilt(String text) {
        for (String module : new String[] {"A=x;", "D=x:D(x+1);", "E=1;"}) {
            program = new LazyModules(6);
            check.due("load of " + module, loadText(module), LazyModules.OK);
            program.ask(0, module.charAt(0) - 'A', 1);
            loadText(text);
            readAll();
            changeAll();
            readAll();
        }
    }

    private void fullBuffers(String start) {
        program = new LazyModules(6);
        for (String one : TOKENS) {
            for (String other : TOKENS) {
                String text = (start + (one + other).repeat(100)).substring(0, 200);
                loadText(text);
                // The last characters may be what closes all that is open.
                loadText(text.substring(0, 199) + ";");
                loadText(text.substring(0, 198) + "x;");
                loadText(text.substring(0, 198) + "7)");
            }
        }
    }

    /** Token after token, each of them one that a module may go on with, until the buffer is full. */
    private void walk() {
        program = new LazyModules(6);
        List<String> liked = new ArrayList<>(List.of(TOKENS));
        Collections.shuffle(liked, random);
        liked = liked.subList(0, 4 + random.nextInt(10));
        String text = "A=";
        while (text.length() < 200) {
            String longer = goneOn(text, liked);
            text = longer.isEmpty() ? goneOn(text, List.of(TOKENS)) : longer;
            if (text.isEmpty()) {
                return;
            }
        }
        readAll();
    }

    /** The text with one more token; a new one where the module was taken; empty where no token may follow. */
    private String goneOn(String text, List<String> tokens) {
        List<String> order = new ArrayList<>(tokens);
        Collections.shuffle(order, random);
        for (String token : order) {
            String longer = text + token;
            int finding = loadText(longer);
            if (finding == LazyModules.OK) {
                return "B=";
            }
            boolean follows = finding != LazyModules.SYNTAX || program.place() >= longer.stripTrailing().length();
            if (finding != LazyModules.SCAN && follows) {
                return longer;
            }
        }
        return "";
    }

    private void longLife() {
        program = new LazyModules(2 + random.nextInt(5));
        for (int i = 0; i < 400; i++) {
            loadText(MODULES[random.nextInt(MODULES.length)]);
            for (int call = 0; call < 20; call++) {
                int slot = random.nextInt(3);
                int f = random.nextInt(5);
                int x = random.nextInt(6);
                int k = random.nextInt(32);
                state = state + " then " + slot + " " + f + " " + x + " " + k;
                program.ask(slot, f, x);
                program.work(slot, 60);
                program.item(f, x, k);
                program.itemValue(f, x, k);
                program.length(f, x);
                program.value(f, x);
                if (random.nextInt(4) == 0) {
                    program.answer(slot);
                    program.unload(f);
                }
            }
        }
    }
}
