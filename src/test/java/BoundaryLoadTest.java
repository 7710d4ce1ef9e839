import java.util.Set;

/** The boundary cases that promises 1 to 5 name, with a method for each sentence. */
public final class BoundaryLoadTest {
    private static final Check check = new Check();
    private static final int OK = LazyModules.OK;
    private static final int SCAN = LazyModules.SCAN;
    private static final int SYNTAX = LazyModules.SYNTAX;
    private static final int DOUBLE = LazyModules.DOUBLE;
    private static final int LARGE = LazyModules.LARGE;
    private static final int DEEP = LazyModules.DEEP;
    private static final int UNKNOWN = LazyModules.UNKNOWN;
    private static final int CLASH = LazyModules.CLASH;
    private static final int DONE = LazyModules.DONE;

    /** 25 nodes, but not deep; 9 deep, but not large; and both. */
    private static final String LARGE_BODY = "x*x*x+x*x*x+x*x*x+x*x*x+x;";
    private static final String DEEP_BODY = "--------x;";
    private static final String BOTH_BODY = "-------------------------x;";

    /** A text for each finding but OK, from SCAN on, each found at 4 while no D is loaded. */
    private static final String[] WRONG = {"A=x #;", "A=x x;", "B=x;B=1;", "D=1;C=" + LARGE_BODY, "    C=" + DEEP_BODY,
        "A=1+D(x);", "A=1 +nil;"};

    public static void main(String[] args) {
        widthBelowTwo();
        widthAboveSix();
        nothingDefined();
        bufferEmpty();
        slotsFree();
        appending();
        fullBuffer();
        charactersBelow32();
        charactersAbove126();
        wipeEmpties();
        wipeAnswers();
        nothingChanges();
        wrongCharacters();
        unknownWords();
        longNumbers();
        firstOfSuch();
        tokensThatMayFollow();
        modulesNotWhole();
        defByDef();
        doubleNames();
        largeNodes();
        largestFunctions();
        largeLinks();
        deepExpressions();
        unknownFunctions();
        firstUnknownCall();
        clashWithKeptDefs();
        clashWithoutReplacedDefs();
        leastPlaceOfClash();
        firstOfTheFindings();
        defsTakeThePlace();
        bufferAfterOk();
        outcomesAfterOk();
        requestsAfterOk();
        placeOfTheLatest();
        placeWithoutLoad();
        check.end();
    }

    private static void widthIs(int given, int width) {
        LazyModules program = check.loaded(given, "A=x;B=A(x+1);");
        check.due("last cell, width " + given, program.look(0, width - 1), DONE);
        check.due("no cell, width " + given, program.look(0, width), LazyModules.REFUSED);
        check.due("call within, width " + given, program.look(1, width - 2), DONE);
        check.due("call beyond, width " + given, program.look(1, width - 1), LazyModules.RANGE);
        check.due("request within, width " + given, program.ask(0, 0, width - 1), true);
        check.due("request beyond, width " + given, program.ask(1, 0, width), false);
    }

    private static void widthBelowTwo() {
        check.sentence("width: below 2 it is 2");
        int[] below = {Integer.MIN_VALUE, Integer.MIN_VALUE + 2, -6, -1, 0, 1, 2};
        for (int width : below) {
            widthIs(width, 2);
        }
        widthIs(3, 3);
    }

    private static void widthAboveSix() {
        check.sentence("above 6 it is 6");
        int[] above = {6, 7, 8, 64, 256 + 3, 65536 + 3, Integer.MAX_VALUE};
        for (int width : above) {
            widthIs(width, 6);
        }
        widthIs(5, 5);
    }

    private static void nothingDefined() {
        check.sentence("Nothing is defined");
        LazyModules program = new LazyModules(6);
        for (int f = 0; f < 5; f++) {
            check.due("kind of " + f, program.kind(f), 0);
            check.due("unload of " + f, program.unload(f), false);
            check.due("ask for " + f, program.ask(0, f, 0), false);
            check.cell(program, f, 0, LazyModules.REFUSED, 0);
            check.due("item of " + f, program.item(f, 0, 0), LazyModules.REFUSED);
            check.due("length of " + f, program.length(f, 0), -2);
            check.refused((f == 0 ? "B" : "A") + "=x+" + (char) ('A' + f) + "(x);", UNKNOWN, 4);
        }
    }

    private static void bufferEmpty() {
        check.sentence("the buffer is empty");
        check.due("wipe", new LazyModules(2).wipe(), 0);
        LazyModules program = new LazyModules(2);
        check.due("load", program.load(), SYNTAX);
        check.due("place", program.place(), 0);
        program = new LazyModules(2);
        check.put(program, " ".repeat(200));
        check.due("one more", program.put(' '), false);
    }

    private static void slotsFree() {
        check.sentence("all slots are free");
        LazyModules program = new LazyModules(2);
        for (int slot = 0; slot < 3; slot++) {
            check.due("pending", program.pending(slot), -1);
            check.due("work", program.work(slot, 1), false);
            check.due("answer", program.answer(slot), LazyModules.REFUSED);
            check.due("cancel", program.cancel(slot), false);
        }
        program = check.loaded(2, "A=x;");
        for (int slot = 0; slot < 3; slot++) {
            check.due("ask", program.ask(slot, 0, 1), true);
        }
    }

    private static void appending() {
        check.sentence("Appends one character");
        LazyModules program = check.loaded(2, "A=12345-2345;");
        check.cell(program, 0, 0, DONE, 10000);
        check.put(program, "A=1");
        check.due("load of a part", program.load(), SYNTAX);
        check.put(program, "2;");
        check.due("load of the whole", program.load(), OK);
        check.cell(program, 0, 0, DONE, 12);
    }

    private static void fullBuffer() {
        check.sentence("False, changing nothing, if the buffer holds 200 characters");
        LazyModules program = new LazyModules(2);
        check.put(program, "A=x;" + " ".repeat(191) + "B=77;");
        check.due("the 201st", program.put(';'), false);
        check.due("the 201st again", program.put('1'), false);
        check.due("the 201st, a wrong one", program.put(10), false);
        check.due("load", program.load(), OK);
        check.cell(program, 1, 0, DONE, 77);
        program = new LazyModules(2);
        check.put(program, "#".repeat(200));
        check.due("the 201st", program.put('#'), false);
        check.due("load", program.load(), SCAN);
        check.due("the 201st after a load that failed", program.put('#'), false);
        check.due("wipe", program.wipe(), 200);
        check.put(program, "#".repeat(200));
        check.due("the 201st after wipe", program.put('#'), false);
    }

    private static void charactersAreRefused(int... characters) {
        LazyModules program = check.loaded(3, "A=x;B=A(x):nil;");
        check.put(program, "A=2;#");
        check.due("load", program.load(), SCAN);
        String before = check.state(program, 3);
        for (int c : characters) {
            check.due("put(" + c + ")", program.put(c), false);
        }
        check.due("state", check.state(program, 3), before);
        check.due("wipe", program.wipe(), 5);
        check.put(program, "A=");
        for (int c : characters) {
            check.due("put(" + c + ")", program.put(c), false);
        }
        check.put(program, "3;");
        check.due("load", program.load(), OK);
        check.cell(program, 0, 0, DONE, 3);
    }

    private static void charactersBelow32() {
        check.sentence("or c is below 32");
        charactersAreRefused(Integer.MIN_VALUE, Integer.MIN_VALUE + 65, -65536 + 65, -256 + 65, -65, -1, 0, 9, 10, 13, 31);
        check.due("put(32)", new LazyModules(2).put(32), true);
        check.due("put(33)", new LazyModules(2).put(33), true);
    }

    private static void charactersAbove126() {
        check.sentence("or above 126");
        charactersAreRefused(127, 128, 255, 256, 256 + 65, 65536 + 65, Integer.MAX_VALUE);
        check.due("put(126)", new LazyModules(2).put(126), true);
        check.due("put(125)", new LazyModules(2).put(125), true);
    }

    private static void wipeEmpties() {
        check.sentence("Empties the buffer");
        LazyModules program = check.loaded(3, "A=x;B=A(x):nil;");
        check.due("ask", program.ask(1, 1, 2), true);
        check.put(program, "B=1;A=nil;C=3; ");
        check.due("load", program.load(), OK);
        check.put(program, "A=1;A=nil;C=4;");
        check.due("load", program.load(), DOUBLE);
        String before = check.state(program, 3);
        check.due("wipe", program.wipe(), 14);
        check.due("state", check.state(program, 3), before);
        check.due("load of nothing", program.load(), SYNTAX);
        check.due("place of nothing", program.place(), 0);
        check.put(program, "D=5;");
        check.due("load of less than before", program.load(), OK);
        check.cell(program, 2, 0, DONE, 3);
        check.cell(program, 3, 0, DONE, 5);
    }

    private static void wipeAnswers() {
        check.sentence("answers how many characters it held");
        int[] counts = {0, 1, 2, 127, 128, 199, 200};
        for (int count : counts) {
            LazyModules program = new LazyModules(2);
            check.put(program, "~".repeat(count));
            check.due("wipe", program.wipe(), count);
            check.due("wipe again", program.wipe(), 0);
        }
        LazyModules program = new LazyModules(2);
        for (int i = 0; i < 210; i++) {
            program.put(' ');
            program.put(10);
        }
        check.due("wipe after puts that failed", program.wipe(), 200);
        check.load(program, "A=x;");
        check.due("wipe after a load that was OK", program.wipe(), 0);
    }

    private static void nothingChanges() {
        check.sentence("The first of these findings is answered, and then nothing changes but place()");
        for (int i = 0; i < WRONG.length; i++) {
            LazyModules program = check.loaded(3, "A=x+1;B=A(x):B(x);");
            check.due("ask", program.ask(0, 1, 2), true);
            check.due("ask", program.ask(2, 0, 0), true);
            String before = check.state(program, 3);
            check.put(program, WRONG[i]);
            check.due("load of " + WRONG[i], program.load(), SCAN + i);
            check.due("place of " + WRONG[i], program.place(), 4);
            check.due("state after " + WRONG[i], check.state(program, 3), before.replace("place -1", "place 4"));
            check.due("load again", program.load(), SCAN + i);
            check.due("place again", program.place(), 4);
            check.due("wipe", program.wipe(), WRONG[i].length());
            check.load(program, "C=B(x);");
            check.due("element", program.itemValue(2, 2, 1), 3);
            check.due("pending", program.pending(0), 10);
        }
    }

    private static void wrongCharacters() {
        check.sentence("SCAN: .. a wrong character");
        for (char c : "\"#$',.>?@[\\]^_`{}~FGHIJKLMNOPQRSTUVWXYZ".toCharArray()) {
            check.refused("" + c, SCAN, 0);
            check.refused("A=x;" + c, SCAN, 4);
            check.refused("A=1" + c + "1;", SCAN, 3);
        }
    }

    private static void unknownWords() {
        check.sentence("an unknown word at its first letter");
        for (String word : new String[] {"y", "xx", "of", "els", "elses", "then then thenn", "true", "null", "abcdefghijklmnop"}) {
            int place = 2 + Math.max(0, word.lastIndexOf(' ') + 1);
            check.refused("A=" + word + ";", SCAN, place);
        }
        check.refused("A=" + "z".repeat(198), SCAN, 2);
    }

    private static void longNumbers() {
        check.sentence("a number of more than 9 digits at its first digit");
        for (int digits = 1; digits <= 30; digits++) {
            String text = "A= " + "0".repeat(digits) + ";";
            if (digits <= 9) {
                check.loaded(2, text);
            } else {
                check.refused(text, SCAN, 3);
            }
        }
    }

    private static void firstOfSuch() {
        check.sentence("place: the first such");
        check.refused("A=#$;", SCAN, 2);
        check.refused("A=foo 1234567890 #;", SCAN, 2);
        check.refused("A=1234567890 foo #;", SCAN, 2);
        check.refused("A=123456789 foo 1234567890;", SCAN, 12);
        check.refused("A=x # foo;", SCAN, 4);
    }

    private static final String BINARY = "+ - * / % < = & |";
    private static final String UNARY = "- ! 7 x nil yes no ( A hd tl nul";
    private static final String ALL = "x if then else try hd tl nul nil yes no 7 A + - * / % < = & | ! : ; ( )";

    private static void mayFollow(String tokens, String allowed) {
        Set<String> all = Set.of(allowed.split(" "));
        for (String token : ALL.split(" ")) {
            String text = tokens + " " + token + "  ";
            LazyModules program = new LazyModules(2);
            check.put(program, text);
            boolean syntax = program.load() == SYNTAX && program.place() == tokens.length() + 1;
            check.due("the last token of " + text + " is one too many", syntax, !all.contains(token));
        }
    }

    private static void tokensThatMayFollow() {
        check.sentence("the first token such that no module begins with the tokens up to it and with it");
        String expr = UNARY + " if try";
        mayFollow("", "A");
        mayFollow("A=x;", "A");
        mayFollow("A", "=");
        mayFollow("A=x;B", "=");
        for (String tokens : new String[] {"A=", "A=(", "A=A(", "A=hd(", "A=tl(", "A=nul(", "A=if", "A=if x then", "A=if x then x else",
            "A=try", "A=try x else", "A=x:", "A=1+(", "A=x;B="}) {
            mayFollow(tokens, expr);
        }
        for (String tokens : new String[] {"A=-", "A=!", "A=x+", "A=x-", "A=x*", "A=x/", "A=x%", "A=x<", "A=x=", "A=x&", "A=x|", "A=x+-",
            "A=if x then x else x+", "A=x:x|"}) {
            mayFollow(tokens, UNARY);
        }
        for (String tokens : new String[] {"A=A", "A=hd", "A=tl", "A=nul", "A=x+B", "A=-tl"}) {
            mayFollow(tokens, "(");
        }
        for (String leaf : new String[] {"7", "x", "nil", "yes", "no", "(x)", "A(x)", "hd(x)", "-x", "x:x", "x+x", "x|x", "x=x", "(x:x)"}) {
            String go = BINARY + " : ";
            mayFollow("A=" + leaf, go + ";");
            mayFollow("A=(" + leaf, go + ")");
            mayFollow("A=nul(" + leaf, go + ")");
            mayFollow("A=if " + leaf, go + "then");
            mayFollow("A=if x then " + leaf, go + "else");
            mayFollow("A=try " + leaf, go + "else");
            mayFollow("A=if x then x else " + leaf, go + ";");
            mayFollow("A=try x else " + leaf, go + ";");
            mayFollow("A=(try x else " + leaf, go + ")");
            mayFollow("A=if try x else " + leaf, go + "then");
            mayFollow("A=if x then try x else " + leaf, go + "else");
            mayFollow("A=try x:if x then x else " + leaf, go + "else");
        }
    }

    private static void modulesNotWhole() {
        check.sentence("if every token passes but the module isn't whole, the number of characters in the buffer");
        String module = "A=if x<1 then try hd(A(x):nil) else -1 else(2);";
        for (int cut = 0; cut < module.length(); cut++) {
            char last = cut == 0 ? ' ' : module.charAt(cut - 1);
            boolean midWord = Character.isLowerCase(last) && Character.isLowerCase(module.charAt(cut));
            if (!midWord) {
                check.refused(module.substring(0, cut), SYNTAX, cut);
                check.refused(module.substring(0, cut) + "   ", SYNTAX, cut + 3);
            }
        }
        check.refused(" ".repeat(200), SYNTAX, 200);
        check.refused("A=x;B" + " ".repeat(195), SYNTAX, 200);
        for (String last : new String[] {"7", "123456789", "x", "nil", "B", "if", "hd", "(", "-", "1+", "x:"}) {
            check.refused("A=" + " ".repeat(198 - last.length()) + last, SYNTAX, 200);
        }
        check.loaded(2, module);
    }

    private static void defByDef() {
        check.sentence("Then, def by def in the order of the text, place: the def's NAME");
        check.refused("A=" + DEEP_BODY + "B=" + LARGE_BODY, DEEP, 0);
        check.refused("A=" + LARGE_BODY + "B=" + DEEP_BODY, LARGE, 0);
        check.refused("A=" + DEEP_BODY + "A=x;", DEEP, 0);
        check.refused("A=" + LARGE_BODY + "A=x;", LARGE, 0);
        check.refused("A=x;A=x; B=" + LARGE_BODY, DOUBLE, 4);
        check.refused("A=x;  B=" + DEEP_BODY + "A=x;", DEEP, 6);
        check.refused("A=x;B=x;C=x;D=x; E=" + DEEP_BODY, DEEP, 17);
    }

    private static void doubleNames() {
        check.sentence("DOUBLE if an earlier def of this text has the same name; else LARGE .. ; else DEEP");
        for (char c = 'A'; c <= 'E'; c++) {
            check.refused(c + "=x;" + c + "=x;", DOUBLE, 4);
        }
        check.refused("A=1;B=2;C=3;D=4;E=5;  C=3;", DOUBLE, 22);
        check.refused("A=1;B=1;B=2;A=2;", DOUBLE, 8);
        check.refused("A=x;A=" + LARGE_BODY, DOUBLE, 4);
        check.refused("A=x;A=" + DEEP_BODY, DOUBLE, 4);
        check.refused("A=x;A=" + BOTH_BODY, DOUBLE, 4);
        check.refused("A=x;B=" + BOTH_BODY, LARGE, 4);
        LazyModules program = check.loaded(2, "A=x;");
        check.load(program, "A=x;");
        check.load(program, "B=x;A=B(x);");
    }

    private static void largeNodes() {
        check.sentence("LARGE if its expression has more than 24 nodes");
        String eighteen = "x*x*x+x*x*x+x*x*x+";
        check.loaded(2, "A=" + eighteen + "x*x*x;B=" + eighteen + "-x*x*x;C=" + eighteen + "x*x*-x;D=x;");
        check.refused("A=" + eighteen + "--x*x*x;", LARGE, 0);
        check.refused("A=" + eighteen + "x*x*x*x;", LARGE, 0);
        check.refused("A=" + eighteen + "-x*x*x;B=" + eighteen + "-x*x*-x;", LARGE, 27);
        check.refused("A=x;" + "B=" + "x+".repeat(96) + "x;", LARGE, 4);
        check.refused("A=" + "-".repeat(196) + "x;", LARGE, 0);
        check.refused("A=" + "x+".repeat(98) + "x;", LARGE, 0);
    }

    /** Functions as large as they may be lie side by side and leave each other alone, in whatever order they come. */
    private static void largestFunctions() {
        check.sentence("LARGE if its expression has more than 24 nodes");
        String names = "CAEBD";
        for (int turn = 0; turn < 5; turn++) {
            LazyModules program = new LazyModules(6);
            for (int i = 0; i < 5; i++) {
                char name = names.charAt((turn + 2 * i) % 5);
                int number = name - 'A' + 1;
                check.load(program, name + "=" + number + "*x*x+x*x*x+x*x*x+-x*x*" + number + ";");
            }
            for (int f = 0; f < 5; f++) {
                check.cell(program, f, 3, DONE, 54);
            }
        }
    }

    private static void largeLinks() {
        check.sentence("or more than 3 nodes ':'");
        check.loaded(2, "A=1:2:3:nil;");
        check.loaded(2, "A=if nul(1:nil) then 2:nil else 3:A(x);");
        check.refused("A=1:2:3:4:nil;", LARGE, 0);
        check.refused("A=if nul(1:nil) then 2:nil else 3:4:nil;", LARGE, 0);
        check.refused("A=1:2:nil;B=hd(1:2:nil)+hd(3:nil)+hd(4:nil);", LARGE, 10);
        check.refused("A=1:2:3:4:5;", LARGE, 0);
        LazyModules program = check.loaded(2, "A=1:2:3+0:nil;");
        check.load(program, "A=1:2:3:nil;");
        check.refused(program, "A=1:2:3:4:nil;", LARGE, 0);
        check.load(program, "A=1:2:3:nil;B=1:2:3:nil;");
    }

    private static void deepExpressions() {
        check.sentence("DEEP if its expression's depth is above 8");
        check.loaded(2, "A=-------x;");
        check.refused("A=--------x;", DEEP, 0);
        check.refused("A=-----------------------x;", DEEP, 0);
        check.refused("A=------------------------x;", LARGE, 0);
        check.loaded(2, "A=1*2*3*4*5*6*7*8;");
        check.refused("A=1*2*3*4*5*6*7*8*9;", DEEP, 0);
        check.refused("A=(1-(2-(3-(4-(5-(6-(7-(8-9))))))));", DEEP, 0);
        check.loaded(2, "A=(1-(2-(3-(4-(5-(6-(7-8)))))));");
        check.refused("A=!!!!!!!!1;", DEEP, 0);
    }

    private static void unknownFunctions() {
        check.sentence("UNKNOWN: a call of a function that is neither defined in this text nor loaded before");
        check.refused("A=B(x);", UNKNOWN, 2);
        check.refused("A=if yes then 1 else B(x);", UNKNOWN, 21);
        check.refused("A=no&1=hd(B(x):nil);", UNKNOWN, 10);
        check.loaded(2, "A=A(x);");
        check.loaded(2, "A=B(x);B=x;");
        check.loaded(2, "B=x;A=B(x);");
        LazyModules program = check.loaded(2, "B=x;C=x;");
        check.load(program, "A=B(x)+C(x);");
        check.due("unload", program.unload(0), true);
        check.due("unload", program.unload(2), true);
        check.refused(program, "A=B(x)+C(x);", UNKNOWN, 7);
        check.refused(program, "C=#;", SCAN, 2);
        check.refused(program, "A=C(x);", UNKNOWN, 2);
        check.load(program, "A=C(x);C=B(x);");
    }

    private static void firstUnknownCall() {
        check.sentence("place: the first such call");
        check.refused("A=D(C(B(x)));", UNKNOWN, 2);
        check.refused("A=A(C(B(x)));", UNKNOWN, 4);
        check.refused("A=x+B(x)*C(x);", UNKNOWN, 4);
        check.refused("A=x;B=A(x)+B(x)+C(D(x));", UNKNOWN, 16);
        check.refused("A=if A(x)=1 then B(x) else C(x);", UNKNOWN, 17);
        check.refused("E=x;D=E(x);C=B(x);", UNKNOWN, 13);
    }

    private static void clashWithKeptDefs() {
        check.sentence("No choice of one kind for each function meets all demands of KINDS of the kept defs and of this text");
        LazyModules program = check.loaded(2, "A=A(x);B=B(x);C=A(x)=B(x);");
        check.refused(program, "D=if A(x) then 1 else B(x);", CLASH, 2);
        check.refused(program, "D=tl(A(x));", CLASH, 2);
        check.refused(program, "A=nil;", CLASH, 0);
        check.refused(program, "A=1;B=yes;", CLASH, 4);
        check.load(program, "A=1;B=2;");
        check.load(program, "A=yes;B=no;");
        check.refused(program, "A=1;", CLASH, 0);
        check.refused(program, "D=-C(x);", CLASH, 2);
        check.refused(program, "C=A(x)+1;", CLASH, 6);
    }

    private static void clashWithoutReplacedDefs() {
        check.sentence("call the defs loaded before whose names this text doesn't define the kept defs");
        LazyModules program = check.loaded(2, "A=x;B=A(x)+1;C=!(B(x)=1);");
        check.refused(program, "A=nil;", CLASH, 0);
        check.load(program, "A=nil;B=hd(A(x));");
        check.refused(program, "B=yes;", CLASH, 0);
        check.load(program, "C=nil;B=yes;A=1;");
        for (int f = 0; f < 3; f++) {
            check.due("kind", program.kind(f), f + 1);
        }
    }

    private static void leastPlaceOfClash() {
        check.sentence("place: the least place p such that no choice meets those .. that stand at places up to p");
        check.refused("A=1+nil+yes;", CLASH, 3);
        check.refused("A=(1+nil)+(yes+1);", CLASH, 4);
        check.refused("A=-(-nil);", CLASH, 4);
        check.refused("A=nil;B=-nil;C=!1;", CLASH, 8);
        check.refused("A=!B(x);B=-C(x);C=x;", CLASH, 8);
        check.refused("C=A(x)&B(x);A=D(x);B=E(x);D=1;E=2;", CLASH, 26);
        check.refused("A=B(x);B=C(x);C=D(x);D=E(x);E=!A(x)=1;", CLASH, 35);
        check.refused("A=hd(A(x));", CLASH, 2);
        check.refused("A=if A(x) then A(x) else 1;", CLASH, 2);
        check.refused("A=1+(if B(x) then B(x) else 1);B=B(x);", CLASH, 5);
        check.refused("A=1+(if yes then B(x) else C(x));B=B(x);C=yes;", CLASH, 40);
        check.refused("A=nul(if yes then B(x) else C(x));C=1;B=B(x);", CLASH, 34);
    }

    private static void firstOfTheFindings() {
        check.sentence("The first of these findings is answered");
        // Each text has the finding of its row, and those that come after it at earlier places.
        String all = "A=1+nil;B=C(x);D=" + DEEP_BODY + "E=" + BOTH_BODY + "A=x;";
        check.refused(all + ";#", SCAN, all.length() + 1);
        check.refused(all + ";", SYNTAX, all.length());
        check.refused("A=1+nil;B=C(x);A=" + BOTH_BODY, DOUBLE, 15);
        check.refused("A=1+nil;B=C(x);D=" + BOTH_BODY, LARGE, 15);
        check.refused("A=1+nil;B=C(x);D=" + DEEP_BODY, DEEP, 15);
        check.refused("A=1+nil;B=C(x);", UNKNOWN, 10);
        check.refused("A=1+nil;B=A(x);", CLASH, 3);
    }

    private static void defsTakeThePlace() {
        check.sentence("each def of the text takes the place of its function's earlier def or is added");
        LazyModules program = check.loaded(3, "A=1:2:3:nil;C=x+x+x+x+x;");
        check.load(program, "C=x;D=yes;");
        check.cell(program, 2, 2, DONE, 2);
        check.cell(program, 3, 0, DONE, 1);
        check.due("length of A", program.length(0, 0), 3);
        check.due("kind of B", program.kind(1), 0);
        check.load(program, "A=no;B=5;E=nil;");
        int[] kinds = {LazyModules.BOOL, LazyModules.INT, LazyModules.INT, LazyModules.BOOL, LazyModules.LIST};
        for (int f = 0; f < 5; f++) {
            check.due("kind of " + f, program.kind(f), kinds[f]);
        }
    }

    private static void bufferAfterOk() {
        check.sentence("the buffer is emptied, place() becomes -1");
        LazyModules program = new LazyModules(2);
        check.put(program, "A=x");
        check.due("load", program.load(), SYNTAX);
        check.due("place", program.place(), 3);
        check.due("put", program.put(';'), true);
        check.due("load", program.load(), OK);
        check.due("place", program.place(), -1);
        check.due("wipe", program.wipe(), 0);
        check.put(program, "A=x;" + " ".repeat(196));
        check.due("load of a full buffer", program.load(), OK);
        check.put(program, " ".repeat(200));
        check.due("load of blanks", program.load(), SYNTAX);
        check.due("place of blanks", program.place(), 200);
    }

    private static void outcomesAfterOk() {
        check.sentence("every cell has the outcome that the functions now loaded give");
        LazyModules program = check.loaded(3, "A=1;B=A(x)+1;C=B(x):D(x);D=C(x);E=hd(tl(C(x)));");
        int[] status = {DONE, LazyModules.DIVIDE, LazyModules.EMPTY, LazyModules.RANGE, LazyModules.LOOP, DONE};
        String[] bodies = {"4", "1/0", "hd(nil)", "A(3)", "B(x)", "x"};
        long[] value = {5, 0, 0, 0, 0, 2};
        for (int i = 0; i < bodies.length; i++) {
            check.load(program, "A=" + bodies[i] + ";");
            check.cell(program, 1, 1, status[i], value[i]);
            check.cell(program, 4, 1, status[i], value[i]);
            check.due("item", program.item(3, 1, 4), status[i]);
            check.due("length", program.length(2, 1), -1);
        }
        check.load(program, "D=nil;");
        check.cell(program, 4, 1, LazyModules.EMPTY, 0);
        check.due("length", program.length(2, 1), 1);
    }

    private static void requestsAfterOk() {
        check.sentence("Slots keep their requests");
        LazyModules program = check.loaded(3, "A=1;B=1/x;C=yes;");
        int[] arguments = {2, 0, 1};
        for (int slot = 0; slot < 3; slot++) {
            check.due("ask", program.ask(slot, slot, arguments[slot]), true);
        }
        check.load(program, "D=2;");
        check.load(program, "A=nil;B=x+1;C=C(x);");
        for (int slot = 0; slot < 3; slot++) {
            check.due("pending", program.pending(slot), slot * 8 + arguments[slot]);
            check.due("work", program.work(slot, 60), true);
        }
        check.due("answer", program.answer(0), DONE);
        check.due("answer", program.answer(1), DONE);
        check.due("answer", program.answer(2), LazyModules.LOOP);
    }

    private static void placeOfTheLatest() {
        check.sentence("The place found by the latest load()");
        LazyModules program = check.loaded(3, "A=x;B=A(x):nil;");
        check.put(program, "A=x;B=#");
        check.due("load", program.load(), SCAN);
        check.due("place", program.place(), 6);
        program.put('1');
        program.ask(0, 0, 0);
        program.work(0, 5);
        program.unload(1);
        program.answer(0);
        check.due("place after other calls", program.place(), 6);
        check.due("wipe", program.wipe(), 8);
        check.due("place after wipe", program.place(), 6);
        check.due("load", program.load(), SYNTAX);
        check.due("place", program.place(), 0);
        check.load(program, "B=1;");
    }

    private static void placeWithoutLoad() {
        check.sentence("-1 if that answered OK or there was none");
        LazyModules program = new LazyModules(3);
        check.due("place of a new object", program.place(), -1);
        check.put(program, "A#");
        check.due("place before a load", program.place(), -1);
        check.due("wipe", program.wipe(), 2);
        check.due("place after wipe", program.place(), -1);
        check.refused(program, "A#", SCAN, 1);
        check.load(program, "A=1;");
        check.due("place after OK", program.place(), -1);
    }
}
