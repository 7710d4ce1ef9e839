/** The boundary cases that the terms TEXT, GRAMMAR and NODES name, with a method for each sentence. */
public final class BoundaryTextTest {
    private static final Check check = new Check();
    private static final int SCAN = LazyModules.SCAN;
    private static final int SYNTAX = LazyModules.SYNTAX;
    private static final int LARGE = LazyModules.LARGE;
    private static final int DEEP = LazyModules.DEEP;
    private static final int DONE = LazyModules.DONE;
    private static final String SIGNS = "+-*/%<=&|!:;()";
    private static final String[] WORDS = {"x", "if", "then", "else", "try", "hd", "tl", "nul", "nil", "yes", "no"};

    public static void main(String[] args) {
        placesFromZero();
        blanksOnlyPartTokens();
        numbersHaveNineDigits();
        digitsAsLongAsPossible();
        lettersAsLongAsPossible();
        knownWords();
        capitalLetters();
        capitalsByThemselves();
        everyCharacter();
        placeOfAToken();
        modulesOfOneDefAndMore();
        repetitionsAlsoNone();
        onceOrNot();
        bracketsWithoutBound();
        groupingToTheLeft();
        elseReachesFar();
        levelsOfOperators();
        nodesThatCount();
        bracketsAndDefsDontCount();
        placeOfANode();
        depthOfLeaves();
        depthOfOtherNodes();
        check.end();
    }

    private static void placesFromZero() {
        check.sentence("Places are indexes of characters in the buffer, from 0");
        check.refused("#", SCAN, 0);
        check.refused(")", SYNTAX, 0);
        check.refused("A=1:2:3:4:nil;", LARGE, 0);
        check.refused("A=--------x;", DEEP, 0);
        String blanks = " ".repeat(195);
        check.refused(blanks + "    #", SCAN, 199);
        check.refused(blanks + "    )", SYNTAX, 199);
        check.refused("A=x;" + blanks + "A", SYNTAX, 200);
        check.refused("A=1" + " ".repeat(192) + "+nil;", LazyModules.CLASH, 195);
        check.refused("A=" + " ".repeat(193) + "B(x);", LazyModules.UNKNOWN, 195);
        check.refused("A=x;" + " ".repeat(192) + "A=x;", LazyModules.DOUBLE, 196);
    }

    private static void blanksOnlyPartTokens() {
        check.sentence("blanks (code 32) only part tokens");
        check.refused(" ", SYNTAX, 1);
        check.refused(" ".repeat(200), SYNTAX, 200);
        check.refused("A=1 2;", SYNTAX, 4);
        check.refused("A=ni l;", SCAN, 2);
        check.refused("A=x x;", SYNTAX, 4);
        LazyModules program = check.loaded(6, "   A   =   if   x   <   1   then   12   else   B   (   x   )   ;   B=-  7;   ");
        check.cell(program, 0, 0, DONE, 12);
        check.cell(program, 0, 1, DONE, -7);
        program = check.loaded(6, "A=if(x<1)then(12)else(B(x));B=-7;");
        check.cell(program, 0, 0, DONE, 12);
        check.cell(program, 0, 1, DONE, -7);
        check.outcome("if x<1then 1else 2", 1, DONE, 2);
    }

    private static void numbersHaveNineDigits() {
        check.sentence("a number; at most 9 digits");
        check.outcome("0", 0, DONE, 0);
        check.outcome("99999999", 0, DONE, 99999999);
        check.outcome("999999999", 0, DONE, 999999999);
        check.outcome("000000000", 0, DONE, 0);
        check.outcome("000000012", 0, DONE, 12);
        check.outcome("-999999999", 0, DONE, -999999999);
        check.outcome("123456789-999999999", 0, DONE, -876543210);
        check.refused("A=1000000000;", SCAN, 2);
        check.refused("A=0000000000;", SCAN, 2);
        check.refused("A=4294967297;", SCAN, 2);
        check.refused("A=" + "0".repeat(198), SCAN, 2);
        check.refused("0".repeat(200), SCAN, 0);
        check.refused("0".repeat(9), SYNTAX, 0);
    }

    private static void digitsAsLongAsPossible() {
        check.sentence("a run of digits 0..9, as long as possible");
        for (char c = '0'; c <= '9'; c++) {
            check.outcome("" + c, 0, DONE, c - '0');
            check.outcome("1" + c + "1", 0, DONE, 101 + 10 * (c - '0'));
        }
        check.refused("A=123456789 123456789;", SYNTAX, 12);
        check.refused("A=1x;", SYNTAX, 3);
        check.refused("A=1A;", SYNTAX, 3);
        check.refused("A=12/;", SYNTAX, 5);
        check.refused("A=12:;", SYNTAX, 5);
    }

    private static void lettersAsLongAsPossible() {
        check.sentence("a run of small letters a..z, as long as possible");
        check.refused("A=xx;", SCAN, 2);
        check.refused("A=nilnil;", SCAN, 2);
        check.refused("A=ifx then 1 else 2;", SCAN, 2);
        check.refused("A=if x thenx else 2;", SCAN, 7);
        check.refused("A=x`;", SCAN, 3);
        check.refused("A=x{;", SCAN, 3);
        check.refused("A=xA;", SYNTAX, 3);
        check.refused("A=x1;", SYNTAX, 3);
        check.refused("x".repeat(200), SCAN, 0);
        for (String word : WORDS) {
            for (char c = 'a'; c <= 'z'; c++) {
                check.refused(" " + word + c, SCAN, 1);
                check.refused(" " + c + word, SCAN, 1);
            }
        }
    }

    private static void knownWords() {
        check.sentence("one of the words  x if then else try hd tl nul nil yes no");
        for (char c = 'a'; c <= 'z'; c++) {
            check.refused("A=" + c, c == 'x' ? SYNTAX : SCAN, c == 'x' ? 3 : 2);
        }
        for (String word : WORDS) {
            check.refused(word, SYNTAX, 0);
            check.refused("A=x " + word, SYNTAX, 4);
            for (int cut = 1; cut < word.length(); cut++) {
                check.refused("  " + word.substring(0, cut) + " ", SCAN, 2);
            }
        }
        for (String word : new String[] {"thin", "elsa", "athen", "aelse", "aaaaif", "il", "ty", "not", "null", "zzzzz"}) {
            check.refused("A=" + word + ";", SCAN, 2);
        }
    }

    private static void capitalLetters() {
        check.sentence("one capital letter A..E: a function name");
        for (char c = 'A'; c <= 'E'; c++) {
            LazyModules program = check.loaded(2, c + "=x;");
            for (int f = 0; f < 5; f++) {
                check.due("look of " + f + " after a def of " + c, program.look(f, 1), f == c - 'A' ? DONE : LazyModules.REFUSED);
            }
        }
        for (char c = 'F'; c <= 'Z'; c++) {
            check.refused(c + "=x;", SCAN, 0);
            check.refused("A=" + c + "(x);", SCAN, 2);
        }
        check.refused("@=x;", SCAN, 0);
    }

    private static void capitalsByThemselves() {
        check.sentence("each capital letter is a token by itself");
        check.refused("AB=x;", SYNTAX, 1);
        check.refused("A=AA(x);", SYNTAX, 3);
        check.refused("A=xB(x);", SYNTAX, 3);
        check.refused("A=EF(x);", SCAN, 3);
        check.refused("A=x;BC=x;", SYNTAX, 5);
    }

    /** One character after a blank: what is no token is found by SCAN, and of the others only a name starts a module. */
    private static void everyCharacter() {
        check.sentence("one of the characters  + - * / % < = & | ! : ; ( )");
        for (char c = 32; c <= 126; c++) {
            boolean passes = c == ' ' || c >= 'A' && c <= 'E';
            boolean token = passes || SIGNS.indexOf(c) >= 0 || c >= '0' && c <= '9' || c == 'x';
            check.refused(" " + c, token ? SYNTAX : SCAN, passes ? 2 : 1);
        }
    }

    private static void placeOfAToken() {
        check.sentence("The place of a token is the place of its first character");
        check.refused("A=x  12345;", SYNTAX, 5);
        check.refused("A=x  then;", SYNTAX, 5);
        check.refused("A=1+  nil;", LazyModules.CLASH, 3);
        check.refused("A=  nul(1);", LazyModules.CLASH, 4);
        check.refused("A=x  qwert;", SCAN, 5);
        check.refused("A=x  1234567890;", SCAN, 5);
    }

    private static void modulesOfOneDefAndMore() {
        check.sentence("module = def { def }");
        check.refused("", SYNTAX, 0);
        check.loaded(2, "A=x;");
        LazyModules program = check.loaded(2, "E=5;D=4;C=3;B=2;A=1;");
        for (int f = 0; f < 5; f++) {
            check.cell(program, f, 1, DONE, f + 1);
        }
        check.refused("A=1;B=2;C=3;D=4;E=5;A=1;", LazyModules.DOUBLE, 20);
        check.refused("A=x", SYNTAX, 3);
        check.refused("A=x;B=x", SYNTAX, 7);
    }

    private static void repetitionsAlsoNone() {
        check.sentence("{ } any number of times, also none");
        String[] sides = {"yes|", "yes&", "yes=", "1+", "1-", "1*", "1/", "2%"};
        long[] due = {1, 1, 1, 8, -6, 1, 1, 0};
        for (int i = 0; i < sides.length; i++) {
            String side = sides[i].substring(0, sides[i].length() - 1);
            check.outcome(side, 0, DONE, side.equals("2") ? 2 : 1);
            check.outcome(sides[i].repeat(7) + side, 0, DONE, due[i]);
        }
        check.outcome("1<2=yes=yes=yes=yes=yes=yes", 0, DONE, 1);
    }

    private static void onceOrNot() {
        check.sentence("[ ] once or not");
        LazyModules program = check.loaded(2, "A=1:2:3:nil;B=nil;C=x:A(x);");
        check.due("length of three elements", program.length(0, 0), 3);
        check.due("length of none", program.length(1, 0), 0);
        check.due("length of one more", program.length(2, 0), 4);
        check.refused("A=1:2:;", SYNTAX, 6);
        check.refused("A=1::nil;", SYNTAX, 4);
        check.refused("A=(1:nil):nil;", LazyModules.CLASH, 9);
        check.outcome("hd(1+1:nil)", 0, DONE, 2);
    }

    private static void bracketsWithoutBound() {
        check.sentence("\"(\" expr \")\"");
        check.outcome("(".repeat(98) + "x" + ")".repeat(98), 3, DONE, 3);
        check.refused("A=" + "(".repeat(98) + "x" + ")".repeat(97) + ";", SYNTAX, 198);
        check.refused("A=" + "(".repeat(97) + "x" + ")".repeat(98) + ";", SYNTAX, 197);
        check.refused("A=" + "(".repeat(198), SYNTAX, 200);
        check.refused("A=" + "hd(".repeat(66), SYNTAX, 200);
        check.refused("A=" + "A(".repeat(99), SYNTAX, 200);
        check.refused("A=" + "!".repeat(198), SYNTAX, 200);
        check.refused("A=" + "1:".repeat(99), SYNTAX, 200);
        check.refused("A=" + "try ".repeat(49) + "  ", SYNTAX, 200);
        check.refused("A=;" + ";".repeat(197), SYNTAX, 2);
        LazyModules program = new LazyModules(2);
        check.put(program, "A=" + "(1+".repeat(66));
        for (int i = 0; i < 100; i++) {
            check.due("load of open brackets", program.load(), SYNTAX);
        }
        check.due("wipe", program.wipe(), 200);
        check.load(program, "A=(2+(3+x));");
        check.cell(program, 0, 1, DONE, 6);
    }

    private static void groupingToTheLeft() {
        check.sentence("Repetitions group to the left");
        check.outcome("9-5-3", 0, DONE, 1);
        check.outcome("9-5+3", 0, DONE, 7);
        check.outcome("64/8/2", 0, DONE, 4);
        check.outcome("64/8*2", 0, DONE, 16);
        check.outcome("17%10%4", 0, DONE, 3);
        check.outcome("7*3%4", 0, DONE, 1);
        check.outcome("2=1=no", 0, DONE, 1);
        check.outcome("2<1=no", 0, DONE, 1);
        check.refused("A=no=2<1;", LazyModules.CLASH, 4);
        check.refused("A=1<2<3;", LazyModules.CLASH, 5);
        check.outcome("1/0=1&no&no", 0, LazyModules.DIVIDE, 0);
        check.refused("A=((1|yes)|yes)|yes;", LazyModules.CLASH, 5);
        check.refused("A=1|yes|yes|yes;", LazyModules.CLASH, 3);
        check.refused("A=yes&yes&1;", LazyModules.CLASH, 9);
    }

    private static void elseReachesFar() {
        check.sentence("the branch after \"else\" reaches as far to the right as it can");
        String[] tails = {"+5", "-5", "*5", "/5", "%5"};
        long[] due = {9, -1, 20, 0, 4};
        for (int i = 0; i < tails.length; i++) {
            check.outcome("if yes then 3 else 4" + tails[i], 0, DONE, 3);
            check.outcome("if no then 3 else 4" + tails[i], 0, DONE, due[i]);
            check.outcome("try 3 else 4" + tails[i], 0, DONE, 3);
            check.outcome("try 1/0 else 4" + tails[i], 0, DONE, due[i]);
        }
        check.outcome("if yes then yes else no&no", 0, DONE, 1);
        check.outcome("if yes then no else no|yes", 0, DONE, 0);
        check.outcome("if yes then no else 1=1", 0, DONE, 0);
        check.outcome("if yes then no else 1<2", 0, DONE, 0);
        LazyModules program = check.loaded(2, "A=if yes then nil else 4:nil;B=try nil else 4:nil;C=1:if x<1 then nil else 2:nil;");
        check.due("length after then", program.length(0, 0), 0);
        check.due("length after try", program.length(1, 0), 0);
        check.due("length at 0", program.length(2, 0), 1);
        check.due("length at 1", program.length(2, 1), 2);
    }

    private static void levelsOfOperators() {
        check.sentence("or = and .. and = cmp .. cmp = sum .. sum = term .. term = unary");
        check.outcome("yes|yes&no", 0, DONE, 1);
        check.outcome("no&no|yes", 0, DONE, 1);
        check.outcome("no&no=no", 0, DONE, 0);
        check.outcome("no=no&no", 0, DONE, 0);
        check.outcome("2<1+2", 0, DONE, 1);
        check.outcome("1+2<2", 0, DONE, 0);
        check.outcome("1+2*3", 0, DONE, 7);
        check.outcome("2*3+1", 0, DONE, 7);
        check.outcome("-2*3-1", 0, DONE, -7);
        check.outcome("-7%4", 0, DONE, -3);
        check.outcome("2--3", 0, DONE, 5);
        check.outcome("!no=no", 0, DONE, 0);
        check.outcome("!!yes", 0, DONE, 1);
        check.refused("A=-!yes;", LazyModules.CLASH, 2);
        check.refused("A=!x<1;", LazyModules.CLASH, 2);
    }

    /** A number with so many nodes, as flat as it can be. */
    private static String number(int nodes) {
        if (nodes <= 2) {
            return nodes == 1 ? "x" : "-x";
        }
        int left = (nodes - 1) / 2;
        return "(" + number(left) + "+" + number(nodes - 1 - left) + ")";
    }

    private static void formCounts(String form, int nodes) {
        check.loaded(2, "A=" + number(23 - nodes) + "+" + form + ";");
        check.refused("A=" + number(24 - nodes) + "+" + form + ";", LARGE, 0);
    }

    private static void nodesThatCount() {
        check.sentence("every number, x, nil, yes, no, every operator .. , every call .. , every hd, tl, nul, if and try is a node");
        formCounts("7", 1);
        formCounts("123456789", 1);
        formCounts("x", 1);
        formCounts("hd(nil)", 2);
        formCounts("hd(tl(nil))", 3);
        formCounts("(if yes then x else x)", 4);
        formCounts("(if no then x else x)", 4);
        formCounts("(if nul(nil) then x else x)", 5);
        formCounts("(if !yes then x else x)", 5);
        formCounts("(try x else x)", 3);
        formCounts("-x", 2);
        formCounts("A(x)", 2);
        formCounts("hd(x:nil)", 4);
        for (char op : "+-*/%".toCharArray()) {
            formCounts("(x" + op + "x)", 3);
        }
        for (String condition : new String[] {"x<x", "x=x", "yes&yes", "yes|yes"}) {
            formCounts("(if " + condition + " then x else x)", 6);
        }
    }

    private static void bracketsAndDefsDontCount() {
        check.sentence("brackets and defs are none");
        formCounts("(((((((((((((((((x)))))))))))))))))", 1);
        check.outcome("(((-------x)))", 5, DONE, -5);
        check.outcome("-(-(-(-(-(-(-(x)))))))", 5, DONE, -5);
        String body = "=x*x+x*x+x*x+x*x+x*x+-x*x;";
        LazyModules program = check.loaded(6, "A" + body + "B" + body + "C" + body + "D" + body + "E" + body);
        for (int f = 0; f < 5; f++) {
            check.cell(program, f, 5, DONE, 100);
        }
        check.loaded(6, "A=1:2:3:nil;B=1:2:3:nil;C=1:2:3:nil;D=1:2:3:nil;E=1:2:3:nil;");
    }

    private static void placeOfANode() {
        check.sentence("standing at the place of its token (a call at its NAME)");
        check.refused("A=  B  (x);", LazyModules.UNKNOWN, 4);
        check.refused("A=  A  (nil);", LazyModules.CLASH, 4);
        check.refused("A=  (nil)  +1;", LazyModules.CLASH, 11);
        check.refused("A=1  +  (  nil );", LazyModules.CLASH, 5);
        check.refused("A=  (-  (nil));", LazyModules.CLASH, 5);
        check.refused("A=if (1) then 1 else 2;", LazyModules.CLASH, 2);
        check.refused("A= (try 1 else nil);", LazyModules.CLASH, 4);
        check.refused("A=1:  2  :3;", LazyModules.CLASH, 9);
    }

    private static String deep(String sign, int depth, String leaf) {
        boolean bracket = sign.endsWith("(");
        return sign.repeat(depth - 1) + leaf + (bracket ? ")".repeat(depth - 1) : "");
    }

    private static void depthOfLeaves() {
        check.sentence("The depth of a number, x, nil, yes, no is 1");
        String[] signs = {"-", "-", "tl(", "!", "!", "A("};
        String[] leaves = {"7", "x", "nil", "yes", "no", "x"};
        for (int i = 0; i < signs.length; i++) {
            check.loaded(2, "A=" + leaves[i] + ";");
            check.loaded(2, "A=" + deep(signs[i], 8, leaves[i]) + ";");
            check.refused("A=" + deep(signs[i], 9, leaves[i]) + ";", DEEP, 0);
        }
    }

    /** # stands for a number, ? for yes or no, ~ for a list: the part that is as deep as it may be, and then deeper. */
    private static void depthOfOtherNodes() {
        check.sentence("of any other node 1 more than the greatest depth of its parts");
        String[] forms = {"#+x", "x+#", "#-x", "x-#", "#*x", "x*#", "#/x", "x/#", "#%x", "x%#", "#<x", "x<#", "#=x", "x=#",
            "?&yes", "yes&?", "?|yes", "yes|?", "#:nil", "x:~", "-#", "!?", "hd(~)", "tl(~)", "nul(~)", "A(#)",
            "if ? then x else x", "if yes then # else x", "if yes then x else #", "try # else x", "try x else #", "#+#", "?&?"};
        for (String form : forms) {
            check.loaded(2, "A=" + filled(form, 7) + ";");
            check.refused("A=" + filled(form, 8) + ";", DEEP, 0);
        }
        check.loaded(2, "A=if !!yes then ----x else " + deep("-", 7, "x") + ";");
    }

    private static String filled(String form, int depth) {
        return form.replace("#", deep("-", depth, "x")).replace("?", deep("!", depth, "yes")).replace("~", deep("tl(", depth, "nil"));
    }
}
