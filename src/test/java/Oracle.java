import java.util.ArrayList;
import java.util.HashMap;
import java.util.HashSet;
import java.util.List;
import java.util.Map;
import java.util.Set;
import java.util.TreeMap;
import java.util.stream.Stream;

/**
 * The document's promises a second time, as close to its words as can be and with no care for speed, so that the program
 * can be compared with it: an Earley recogniser for SYNTAX, a descending parser for the tree, a recursive search
 * for outcomes, and kinds by trying all choices at all places.
 */
final class Oracle {
    private static final Set<String> WORDS = Set.of("x", "if", "then", "else", "try", "hd", "tl", "nul", "nil", "yes", "no");
    private static final String SIGNS = "+-*/%<=&|!:;()";
    private static final String[] GRAMMAR = {"module def", "module module def", "def NAME = expr ;",
        "expr if expr then expr else expr", "expr try expr else expr", "expr or", "expr or : expr",
        "or and", "or or | and", "and cmp", "and and & cmp", "cmp sum", "cmp cmp < sum", "cmp cmp = sum",
        "sum term", "sum sum + term", "sum sum - term",
        "term unary", "term term * unary", "term term / unary", "term term % unary",
        "unary - unary", "unary ! unary", "unary NUMBER", "unary x", "unary nil", "unary yes", "unary no",
        "unary ( expr )", "unary NAME ( expr )", "unary hd ( expr )", "unary tl ( expr )", "unary nul ( expr )"};
    private static final String[][] RULES = Stream.of(GRAMMAR).map(rule -> rule.split(" ")).toArray(String[][]::new);

    private record Token(String word, int place, String sort) { }

    /** A rule's first symbol is its left side, so the dot starts at 1. */
    private record Item(int rule, int dot, int origin) {
        String left() {
            return RULES[rule][0];
        }

        String next() {
            return dot < RULES[rule].length ? RULES[rule][dot] : "";
        }

        Item moved() {
            return new Item(rule, dot + 1, origin);
        }
    }

    private record Node(String op, int place, long number, List<Node> parts) {
        int count() {
            return 1 + parts.stream().mapToInt(Node::count).sum();
        }

        int links() {
            return (op.equals(":") ? 1 : 0) + parts.stream().mapToInt(Node::links).sum();
        }

        int depth() {
            return 1 + parts.stream().mapToInt(Node::depth).max().orElse(0);
        }

        void collect(List<Node> into) {
            into.add(this);
            parts.forEach(p -> p.collect(into));
        }
    }

    private record Def(int f, int place, Node body) { }

    /** list is the node of ':' that made the list, at the argument listAt; null for everything else. */
    private record Outcome(int status, long number, Node list, int listAt) { }

    /** Two nodes are the same only if they are one object, so a place in the search is named by identity. */
    private static final class Spot {
        private final Node node;
        private final int x;

        Spot(Node node, int x) {
            this.node = node;
            this.x = x;
        }

        @Override
        public boolean equals(Object other) {
            return other instanceof Spot spot && spot.node == node && spot.x == x;
        }

        @Override
        public int hashCode() {
            return System.identityHashCode(node) * 31 + x;
        }
    }

    private final int width;
    private final StringBuilder buffer = new StringBuilder();
    private final Map<Integer, Def> loaded = new TreeMap<>();
    private final int[][] slots = new int[3][];
    private int place = -1;
    private Map<Spot, Outcome> known = new HashMap<>();
    private List<int[]> fitting = List.of();
    private List<Token> tokens = List.of();
    private int at = 0;

    Oracle(int width) {
        this.width = Math.max(2, Math.min(6, width));
    }

    boolean put(int c) {
        if (buffer.length() == 200 || c < 32 || c > 126) {
            return false;
        }
        buffer.append((char) c);
        return true;
    }

    int wipe() {
        int held = buffer.length();
        buffer.setLength(0);
        return held;
    }

    int place() {
        return place;
    }

    int load() {
        List<Def> defs = new ArrayList<>();
        int finding = find(defs);
        if (finding == LazyModules.OK) {
            defs.forEach(d -> loaded.put(d.f(), d));
            known = new HashMap<>();
            fitting = List.of();
            buffer.setLength(0);
            place = -1;
        }
        return finding;
    }

    private int find(List<Def> defs) {
        tokens = new ArrayList<>();
        place = scan();
        if (place >= 0) {
            return LazyModules.SCAN;
        }
        place = firstUnfit();
        if (place >= 0) {
            return LazyModules.SYNTAX;
        }
        at = 0;
        while (at < tokens.size()) {
            defs.add(def());
        }
        for (int i = 0; i < defs.size(); i++) {
            Def d = defs.get(i);
            place = d.place();
            if (defs.subList(0, i).stream().anyMatch(e -> e.f() == d.f())) {
                return LazyModules.DOUBLE;
            }
            if (d.body().count() > 24 || d.body().links() > 3) {
                return LazyModules.LARGE;
            }
            if (d.body().depth() > 8) {
                return LazyModules.DEEP;
            }
        }
        place = firstUnknown(defs);
        if (place >= 0) {
            return LazyModules.UNKNOWN;
        }
        place = firstClash(defs);
        return place >= 0 ? LazyModules.CLASH : LazyModules.OK;
    }

    private int scan() {
        int i = 0;
        while (i < buffer.length()) {
            int end = i + 1;
            char c = buffer.charAt(i);
            String sort = null;
            if (Character.isDigit(c)) {
                while (end < buffer.length() && Character.isDigit(buffer.charAt(end))) {
                    end++;
                }
                sort = end - i <= 9 ? "NUMBER" : null;
            } else if (Character.isLowerCase(c)) {
                while (end < buffer.length() && Character.isLowerCase(buffer.charAt(end))) {
                    end++;
                }
                String word = buffer.substring(i, end);
                sort = WORDS.contains(word) ? word : null;
            } else if ("ABCDE".indexOf(c) >= 0) {
                sort = "NAME";
            } else if (SIGNS.indexOf(c) >= 0) {
                sort = "" + c;
            }
            if (c != ' ') {
                if (sort == null) {
                    return i;
                }
                tokens.add(new Token(buffer.substring(i, end), i, sort));
            }
            i = end;
        }
        return -1;
    }

    private int firstUnfit() {
        List<Set<Item>> sets = new ArrayList<>();
        sets.add(complete(Set.of(new Item(0, 1, 0), new Item(1, 1, 0)), sets));
        for (Token token : tokens) {
            Set<Item> next = new HashSet<>();
            for (Item item : sets.get(sets.size() - 1)) {
                if (item.next().equals(token.sort())) {
                    next.add(item.moved());
                }
            }
            if (next.isEmpty()) {
                return token.place();
            }
            sets.add(complete(next, sets));
        }
        boolean whole = sets.get(sets.size() - 1).stream()
            .anyMatch(i -> i.left().equals("module") && i.origin() == 0 && i.next().isEmpty());
        return whole ? -1 : buffer.length();
    }

    private static Set<Item> complete(Set<Item> start, List<Set<Item>> before) {
        List<Item> agenda = new ArrayList<>(start);
        Set<Item> all = new HashSet<>(start);
        for (int i = 0; i < agenda.size(); i++) {
            Item item = agenda.get(i);
            List<Item> more = new ArrayList<>();
            if (item.next().isEmpty()) {
                // No rule of the grammar is empty, so a finished item began in an earlier set.
                for (Item waiting : before.get(item.origin())) {
                    if (waiting.next().equals(item.left())) {
                        more.add(waiting.moved());
                    }
                }
            }
            for (int rule = 0; rule < RULES.length; rule++) {
                if (RULES[rule][0].equals(item.next())) {
                    more.add(new Item(rule, 1, before.size()));
                }
            }
            for (Item m : more) {
                if (all.add(m)) {
                    agenda.add(m);
                }
            }
        }
        return all;
    }

    private boolean sees(String... sorts) {
        return at < tokens.size() && List.of(sorts).contains(tokens.get(at).sort());
    }

    private Token take() {
        return tokens.get(at++);
    }

    private Def def() {
        Token name = take();
        take();
        Node body = expr();
        take();
        return new Def(name.word().charAt(0) - 'A', name.place(), body);
    }

    private static Node node(Token token, Node... parts) {
        return new Node(token.sort(), token.place(), 0, List.of(parts));
    }

    private Node expr() {
        if (sees("if")) {
            Token token = take();
            Node c = expr();
            take();
            Node a = expr();
            take();
            return node(token, c, a, expr());
        }
        if (sees("try")) {
            Token token = take();
            Node a = expr();
            take();
            return node(token, a, expr());
        }
        Node left = level(0);
        if (sees(":")) {
            Token token = take();
            return node(token, left, expr());
        }
        return left;
    }

    private Node level(int level) {
        String[][] signs = {{"|"}, {"&"}, {"<", "="}, {"+", "-"}, {"*", "/", "%"}};
        if (level == signs.length) {
            return unary();
        }
        Node left = level(level + 1);
        while (sees(signs[level])) {
            Token token = take();
            left = node(token, left, level(level + 1));
        }
        return left;
    }

    private Node unary() {
        Token token = take();
        switch (token.sort()) {
            case "-":
                return new Node("neg", token.place(), 0, List.of(unary()));
            case "!":
                return node(token, unary());
            case "(":
                Node inner = expr();
                take();
                return inner;
            case "NAME", "hd", "tl", "nul":
                take();
                Node part = expr();
                take();
                return new Node(token.sort(), token.place(), token.word().charAt(0) - 'A', List.of(part));
            case "NUMBER":
                return new Node("NUMBER", token.place(), Long.parseLong(token.word()), List.of());
            default:
                return node(token);
        }
    }

    private static List<Node> nodes(Def def) {
        List<Node> all = new ArrayList<>();
        def.body().collect(all);
        return all;
    }

    private int firstUnknown(List<Def> defs) {
        int first = -1;
        for (Def d : defs) {
            for (Node n : nodes(d)) {
                boolean unknown = n.op().equals("NAME") && !loaded.containsKey((int) n.number())
                    && defs.stream().noneMatch(e -> e.f() == n.number());
                if (unknown && (first < 0 || n.place() < first)) {
                    first = n.place();
                }
            }
        }
        return first;
    }

    private static List<int[]> choices() {
        List<int[]> all = new ArrayList<>();
        for (int c = 0; c < 243; c++) {
            all.add(new int[] {1 + c % 3, 1 + c / 3 % 3, 1 + c / 9 % 3, 1 + c / 27 % 3, 1 + c / 81});
        }
        return all;
    }

    private static int kind(Node n, int[] choice) {
        return switch (n.op()) {
            case "NUMBER", "x", "+", "-", "*", "/", "%", "neg", "hd" -> LazyModules.INT;
            case "yes", "no", "<", "=", "&", "|", "!", "nul" -> LazyModules.BOOL;
            case "nil", ":", "tl" -> LazyModules.LIST;
            case "NAME" -> choice[(int) n.number()];
            case "if" -> kind(n.parts().get(1), choice);
            case "try" -> kind(n.parts().get(0), choice);
            default -> throw new IllegalStateException(n.op());
        };
    }

    private static boolean meets(Node n, int[] choice) {
        int[] k = n.parts().stream().mapToInt(p -> kind(p, choice)).toArray();
        return switch (n.op()) {
            case "+", "-", "*", "/", "%", "<" -> k[0] == LazyModules.INT && k[1] == LazyModules.INT;
            case "=" -> k[0] == k[1] && k[0] != LazyModules.LIST;
            case "neg", "NAME" -> k[0] == LazyModules.INT;
            case "!" -> k[0] == LazyModules.BOOL;
            case "&", "|" -> k[0] == LazyModules.BOOL && k[1] == LazyModules.BOOL;
            case ":" -> k[0] == LazyModules.INT && k[1] == LazyModules.LIST;
            case "hd", "tl", "nul" -> k[0] == LazyModules.LIST;
            case "if" -> k[0] == LazyModules.BOOL && k[1] == k[2];
            case "try" -> k[0] == k[1];
            default -> true;
        };
    }

    private static boolean meets(Def d, int[] choice, int upTo) {
        return (d.place() > upTo || kind(d.body(), choice) == choice[d.f()])
            && nodes(d).stream().allMatch(n -> n.place() > upTo || meets(n, choice));
    }

    private int firstClash(List<Def> defs) {
        List<int[]> left = choices();
        for (Def d : loaded.values()) {
            if (defs.stream().noneMatch(e -> e.f() == d.f())) {
                left.removeIf(c -> !meets(d, c, 200));
            }
        }
        for (int p = 0; p < buffer.length(); p++) {
            int upTo = p;
            for (Def d : defs) {
                left.removeIf(c -> !meets(d, c, upTo));
            }
            if (left.isEmpty()) {
                return p;
            }
        }
        return -1;
    }

    int kind(int f) {
        if (!loaded.containsKey(f)) {
            return 0;
        }
        if (fitting.isEmpty()) {
            fitting = choices();
            loaded.values().forEach(d -> fitting.removeIf(c -> !meets(d, c, 200)));
        }
        int[] kinds = fitting.stream().mapToInt(c -> c[f]).distinct().toArray();
        return kinds.length == 1 ? kinds[0] : LazyModules.INT;
    }

    boolean unload(int f) {
        if (!loaded.containsKey(f)) {
            return false;
        }
        for (Def d : loaded.values()) {
            if (d.f() != f && nodes(d).stream().anyMatch(n -> n.op().equals("NAME") && n.number() == f)) {
                return false;
            }
        }
        for (int[] slot : slots) {
            if (slot != null && slot[0] == f) {
                return false;
            }
        }
        loaded.remove(f);
        fitting = List.of();
        return true;
    }

    private static Outcome failed(int status) {
        return new Outcome(status, 0, null, 0);
    }

    private static Outcome done(long number) {
        return new Outcome(LazyModules.DONE, number, null, 0);
    }

    private static Outcome done(boolean truth) {
        return done(truth ? 1 : 0);
    }

    private Outcome outcome(Node n, int x) {
        Spot spot = new Spot(n, x);
        if (!known.containsKey(spot)) {
            // Who comes here again before the outcome is found needs that very outcome.
            known.put(spot, failed(LazyModules.LOOP));
            known.put(spot, search(n, x));
        }
        return known.get(spot);
    }

    private Outcome search(Node n, int x) {
        switch (n.op()) {
            case "NUMBER":
                return done(n.number());
            case "x":
                return done(x);
            case "nil", "no":
                return done(false);
            case "yes":
                return done(true);
            case ":":
                return new Outcome(LazyModules.DONE, 1, n, x);
            default:
                break;
        }
        Outcome a = outcome(n.parts().get(0), x);
        if (n.op().equals("try")) {
            boolean caught = a.status() != LazyModules.DONE && a.status() != LazyModules.LOOP;
            return caught ? outcome(n.parts().get(1), x) : a;
        }
        if (a.status() != LazyModules.DONE) {
            return a;
        }
        switch (n.op()) {
            case "neg":
                return done(-a.number());
            case "!", "nul":
                return done(a.number() == 0);
            case "&":
                return a.number() == 0 ? a : outcome(n.parts().get(1), x);
            case "|":
                return a.number() == 1 ? a : outcome(n.parts().get(1), x);
            case "if":
                return outcome(n.parts().get(a.number() == 1 ? 1 : 2), x);
            case "hd", "tl":
                return a.list() == null ? failed(LazyModules.EMPTY)
                    : outcome(a.list().parts().get(n.op().equals("hd") ? 0 : 1), a.listAt());
            case "NAME":
                return a.number() < 0 || a.number() > width - 1 ? failed(LazyModules.RANGE)
                    : outcome(loaded.get((int) n.number()).body(), (int) a.number());
            default:
                return twoSided(n.op(), a, outcome(n.parts().get(1), x));
        }
    }

    private static Outcome twoSided(String op, Outcome a, Outcome b) {
        if (b.status() != LazyModules.DONE) {
            return b;
        }
        long left = a.number();
        long right = b.number();
        return switch (op) {
            case "+" -> done(left + right);
            case "-" -> done(left - right);
            case "*" -> done(left * right);
            case "/" -> right == 0 ? failed(LazyModules.DIVIDE) : done(left / right);
            case "%" -> right == 0 ? failed(LazyModules.DIVIDE) : done(left % right);
            case "<" -> done(left < right);
            case "=" -> done(left == right);
            default -> throw new IllegalStateException(op);
        };
    }

    private Outcome cell(int f, int x) {
        return loaded.containsKey(f) && x >= 0 && x < width ? outcome(loaded.get(f).body(), x) : failed(LazyModules.REFUSED);
    }

    int look(int f, int x) {
        return cell(f, x).status();
    }

    long value(int f, int x) {
        return cell(f, x).number();
    }

    private Outcome element(int f, int x, int k) {
        Outcome list = cell(f, x);
        if (list.status() == LazyModules.REFUSED || kind(f) != LazyModules.LIST || k < 0 || k > 31) {
            return failed(LazyModules.REFUSED);
        }
        for (int i = 0; i <= k; i++) {
            if (list.status() != LazyModules.DONE) {
                return list;
            }
            if (list.list() == null) {
                return failed(LazyModules.EMPTY);
            }
            list = outcome(list.list().parts().get(i < k ? 1 : 0), list.listAt());
        }
        return list;
    }

    int item(int f, int x, int k) {
        return element(f, x, k).status();
    }

    long itemValue(int f, int x, int k) {
        return element(f, x, k).number();
    }

    int length(int f, int x) {
        if (item(f, x, 0) == LazyModules.REFUSED) {
            return -2;
        }
        int passed = 0;
        Outcome list = cell(f, x);
        while (list.status() == LazyModules.DONE && list.list() != null && passed < 41) {
            passed++;
            list = outcome(list.list().parts().get(1), list.listAt());
        }
        return list.status() == LazyModules.DONE && list.list() == null && passed <= 40 ? passed : -1;
    }

    private boolean holds(int slot) {
        return slot >= 0 && slot <= 2 && slots[slot] != null;
    }

    boolean ask(int slot, int f, int x) {
        if (slot < 0 || slot > 2 || holds(slot) || look(f, x) == LazyModules.REFUSED) {
            return false;
        }
        slots[slot] = new int[] {f, x};
        return true;
    }

    boolean work(int slot, int steps) {
        return holds(slot) && steps >= 1 && steps <= 60;
    }

    int answer(int slot) {
        int status = holds(slot) ? look(slots[slot][0], slots[slot][1]) : LazyModules.REFUSED;
        cancel(slot);
        return status;
    }

    boolean cancel(int slot) {
        boolean held = holds(slot);
        if (held) {
            slots[slot] = null;
        }
        return held;
    }

    int pending(int slot) {
        return holds(slot) ? slots[slot][0] * 8 + slots[slot][1] : -1;
    }
}
