import java.util.ArrayList;
import java.util.BitSet;
import java.util.Comparator;
import java.util.HashMap;
import java.util.LinkedHashMap;
import java.util.LinkedList;
import java.util.List;
import java.util.Map;
import java.util.function.Predicate;

/**
 * The document once more, written down as plainly as the Java library lets one and in other ways than
 * ShrinkDesk: what ModelTest holds against the class.
 */
final class PlainModel {
    private static final class Term {
        final Predicate<String> holds;
        final int depth;

        Term(int depth, Predicate<String> holds) {
            this.depth = depth;
            this.holds = holds;
        }
    }

    private static final class Node {
        int rule;
        boolean loose;
        int begin;
        int end;
        final List<Node> children = new ArrayList<>();
    }

    /** A node at its place in a tree; a Node may stand at several. */
    private static final class Placed {
        final Node node;
        final int depth;
        final Placed parent;
        boolean kept = true;

        Placed(Node node, int depth, Placed parent) {
            this.node = node;
            this.depth = depth;
            this.parent = parent;
        }

        int size() {
            return node.end - node.begin;
        }

        boolean below(Placed other) {
            return parent != null && (parent == other || parent.below(other));
        }
    }

    private static final class Ended extends RuntimeException {
        private static final long serialVersionUID = 1L;

        Ended() {
            super(null, null, false, false);
        }
    }

    private static final String ITEM = "[a-z0-9 ,()A-F-][?*+]?";
    private static final String ROW = "(" + ITEM + ")*";
    private static final String RULES = "([A-F]=" + ROW + "(/" + ROW + ")*;)+";

    private String text = "";
    private String written = "";
    private final List<Term> stack = new ArrayList<>();
    private Term wrong;
    private Term unclear;
    private LinkedHashMap<Character, String[]> grammar;
    private char start;
    private boolean remembering = true;
    private final LinkedList<String> remembered = new LinkedList<>();
    private int probes;
    private int hits;
    private int reductions;
    private boolean ended;
    private int left;

    String text() {
        return text;
    }

    /** The name of the start, or 0. */
    char startName() {
        return grammar == null ? 0 : start;
    }

    String[] rowsOf(char name) {
        return grammar.get(name);
    }

    boolean type(char c) {
        if (Hand.TEXT_SIGNS.indexOf(c) < 0 || text.length() == 32) {
            return false;
        }
        text += c;
        return true;
    }

    void clear() {
        text = "";
    }

    boolean write(char c) {
        if (Hand.GRAMMAR_SIGNS.indexOf(c) < 0 || written.length() == 60) {
            return false;
        }
        written += c;
        return true;
    }

    int read() {
        String signs = written;
        written = "";
        grammar = null;
        if (!signs.matches(RULES)) {
            return -1;
        }
        LinkedHashMap<Character, String[]> rules = new LinkedHashMap<>();
        for (String rule : signs.split(";")) {
            if (rules.put(rule.charAt(0), rule.substring(2).split("/", -1)) != null) {
                return -1;
            }
        }
        for (String[] rows : rules.values()) {
            for (char c : String.join("", rows).toCharArray()) {
                if (c >= 'A' && c <= 'F' && !rules.containsKey(c)) {
                    return -1;
                }
            }
        }
        if (leadsBack(rules)) {
            return -1;
        }
        grammar = rules;
        start = signs.charAt(0);
        return rules.size();
    }

    static List<String> items(String row) {
        List<String> items = new ArrayList<>();
        for (int i = 0; i < row.length(); i++) {
            boolean tailed = i + 1 < row.length() && "?*+".indexOf(row.charAt(i + 1)) >= 0;
            items.add(row.substring(i, tailed ? i + 2 : i + 1));
            i += tailed ? 1 : 0;
        }
        return items;
    }

    private static boolean leadsBack(Map<Character, String[]> rules) {
        String emptiable = "";
        for (boolean more = true; more; ) {
            more = false;
            for (Map.Entry<Character, String[]> rule : rules.entrySet()) {
                for (String row : rule.getValue()) {
                    String known = emptiable;
                    boolean empty = items(row).stream().allMatch(item -> mayBeEmpty(item, known));
                    if (empty && emptiable.indexOf(rule.getKey()) < 0) {
                        emptiable += rule.getKey();
                        more = true;
                    }
                }
            }
        }
        boolean[][] leads = new boolean[6][6];
        for (Map.Entry<Character, String[]> rule : rules.entrySet()) {
            for (String row : rule.getValue()) {
                for (String item : items(row)) {
                    char c = item.charAt(0);
                    if (c >= 'A' && c <= 'F') {
                        leads[rule.getKey() - 'A'][c - 'A'] = true;
                    }
                    if (!mayBeEmpty(item, emptiable)) {
                        break;
                    }
                }
            }
        }
        for (int via = 0; via < 6; via++) {
            for (int i = 0; i < 6; i++) {
                for (int j = 0; j < 6; j++) {
                    leads[i][j] |= leads[i][via] && leads[via][j];
                }
            }
        }
        boolean back = false;
        for (int i = 0; i < 6; i++) {
            back |= leads[i][i];
        }
        return back;
    }

    private static boolean mayBeEmpty(String item, String emptiable) {
        return item.endsWith("?") || item.endsWith("*") || emptiable.indexOf(item.charAt(0)) >= 0;
    }

    /** The node of a rule that matches at a place, or null. */
    private Node match(char name, String of, int at, Map<String, Node> known) {
        String key = name + "" + at;
        if (!known.containsKey(key)) {
            Node found = null;
            for (String row : grammar.get(name)) {
                if (found == null) {
                    found = matchRow(row, of, at, known);
                }
            }
            if (found != null) {
                found.rule = name - 'A';
            }
            known.put(key, found);
        }
        return known.get(key);
    }

    private Node matchRow(String row, String of, int at, Map<String, Node> known) {
        Node node = new Node();
        node.begin = at;
        node.end = at;
        for (String item : items(row)) {
            char c = item.charAt(0);
            char tail = item.length() == 2 ? item.charAt(1) : ' ';
            List<Node> taken = new ArrayList<>();
            Node next = one(c, of, node.end, known);
            if (next == null && (tail == ' ' || tail == '+')) {
                return null;
            }
            if (next != null && (tail != '*' || next.end > next.begin)) {
                taken.add(next);
                node.end = next.end;
                while (tail == '*' || tail == '+') {
                    next = one(c, of, node.end, known);
                    if (next == null || next.end == next.begin) {
                        break;
                    }
                    taken.add(next);
                    node.end = next.end;
                }
            }
            boolean loose = tail == '?' || tail == '*' || tail == '+' && taken.size() > 1;
            if (tail != ' ' || c >= 'A' && c <= 'F') {
                for (Node each : taken) {
                    Node copy = new Node();
                    copy.rule = each.rule;
                    copy.begin = each.begin;
                    copy.end = each.end;
                    copy.children.addAll(each.children);
                    copy.loose = loose;
                    node.children.add(copy);
                }
            }
        }
        return node;
    }

    private Node one(char c, String of, int at, Map<String, Node> known) {
        if (c >= 'A' && c <= 'F') {
            return match(c, of, at, known);
        }
        if (at >= of.length() || of.charAt(at) != c) {
            return null;
        }
        Node node = new Node();
        node.rule = 6;
        node.begin = at;
        node.end = at + 1;
        return node;
    }

    /** The tree of a text, or null when it doesn't parse. */
    private List<Placed> parse(String of) {
        Node root = match(start, of, 0, new HashMap<>());
        if (root == null || root.end != of.length()) {
            return null;
        }
        List<Placed> nodes = new ArrayList<>();
        place(root, 0, null, nodes);
        return nodes.size() > 60 ? null : nodes;
    }

    private static void place(Node node, int depth, Placed parent, List<Placed> nodes) {
        if (nodes.size() > 60) {
            return;
        }
        Placed placed = new Placed(node, depth, parent);
        nodes.add(placed);
        for (Node child : node.children) {
            place(child, depth + 1, placed, nodes);
        }
    }

    private boolean push(Term term) {
        if (stack.size() == 6) {
            return false;
        }
        stack.add(term);
        return true;
    }

    boolean has(char c, int k) {
        boolean fits = Hand.TEXT_SIGNS.indexOf(c) >= 0 && k >= 1 && k <= 9;
        return fits && push(new Term(1, s -> s.chars().filter(x -> x == c).count() >= k));
    }

    boolean pair(char c, char d, boolean near) {
        if (Hand.TEXT_SIGNS.indexOf(c) < 0 || Hand.TEXT_SIGNS.indexOf(d) < 0) {
            return false;
        }
        if (near) {
            return push(new Term(1, s -> s.contains("" + c + d)));
        }
        return push(new Term(1, s -> s.indexOf(c) >= 0 && s.indexOf(c) < s.lastIndexOf(d)));
    }

    boolean size(int n) {
        if (n < -1 || n > 32) {
            return false;
        }
        return push(n == -1 ? new Term(1, s -> s.length() % 2 == 0) : new Term(1, s -> s.length() >= n));
    }

    boolean not() {
        int top = stack.size() - 1;
        if (top < 0 || stack.get(top).depth == 6) {
            return false;
        }
        Term x = stack.get(top);
        stack.set(top, new Term(x.depth + 1, x.holds.negate()));
        return true;
    }

    boolean join(boolean either) {
        int top = stack.size() - 1;
        if (top < 1 || Math.max(stack.get(top).depth, stack.get(top - 1).depth) == 6) {
            return false;
        }
        Term y = stack.remove(top);
        Term x = stack.remove(top - 1);
        Predicate<String> both = either ? x.holds.or(y.holds) : x.holds.and(y.holds);
        stack.add(new Term(1 + Math.max(x.depth, y.depth), both));
        return true;
    }

    boolean mark(boolean forUnclear) {
        if (stack.isEmpty()) {
            return false;
        }
        Term term = stack.remove(stack.size() - 1);
        if (forUnclear) {
            unclear = term;
        } else {
            wrong = term;
        }
        remembered.clear();
        return true;
    }

    void remember(boolean on) {
        remembering = on;
        remembered.clear();
    }

    int outcome() {
        return outcome(text);
    }

    private int outcome(String of) {
        if (wrong != null && wrong.holds.test(of)) {
            return 1;
        }
        return unclear != null && unclear.holds.test(of) ? 2 : 0;
    }

    int nodes() {
        if (grammar == null) {
            return -1;
        }
        List<Placed> nodes = parse(text);
        return nodes == null ? 0 : nodes.size();
    }

    private Placed placed(int i) {
        List<Placed> nodes = grammar == null ? null : parse(text);
        return nodes == null || i < 0 || i >= nodes.size() ? null : nodes.get(i);
    }

    int node(int i) {
        Placed p = placed(i);
        if (p == null) {
            return -1;
        }
        return 10000 * p.node.rule + (p.node.loose ? 5000 : 0) + 40 * p.node.begin + p.size();
    }

    int depth(int i) {
        Placed p = placed(i);
        return p == null ? -1 : p.depth;
    }

    int length() {
        return text.length();
    }

    char at(int i) {
        return i >= 0 && i < text.length() ? text.charAt(i) : 0;
    }

    int count(int which) {
        int[] counts = {probes, hits, reductions, ended ? 1 : 0, remembered.size()};
        return which >= 0 && which < 5 ? counts[which] : -1;
    }

    int reduce(int kind, int most) {
        if (kind < 0 || kind > 4 || most < 0 || most > 400) {
            return -1;
        }
        if (outcome() != 1) {
            return -2;
        }
        if (kind > 1 && (grammar == null || parse(text) == null)) {
            return -3;
        }
        reductions++;
        ended = false;
        left = most;
        try {
            reduceBy(kind);
        } catch (Ended e) {
            ended = true;
        }
        return text.length();
    }

    private void reduceBy(int kind) {
        switch (kind) {
            case 0:
                lessen(text, spans("."), new BitSet());
                break;
            case 1:
                lessen(text, spans("^ +|[^ ]+ *"), new BitSet());
                break;
            case 2:
                byLevels();
                break;
            case 3:
                for (int before = 33; text.length() < before && parse(text) != null; ) {
                    before = text.length();
                    byLevels();
                }
                break;
            default:
                while (moved()) {
                    continue;
                }
        }
    }

    private List<int[]> spans(String pattern) {
        java.util.regex.Matcher matcher = java.util.regex.Pattern.compile(pattern).matcher(text);
        List<int[]> spans = new ArrayList<>();
        while (matcher.find()) {
            spans.add(new int[] {matcher.start(), matcher.end()});
        }
        return spans;
    }

    private boolean goesWrong(String of) {
        if (remembered.contains(of)) {
            hits++;
        } else if (left == 0) {
            throw new Ended();
        } else {
            left--;
            probes++;
            if (remembering) {
                remembered.add(of);
            }
            if (remembered.size() > 24) {
                remembered.removeFirst();
            }
        }
        return outcome(of) == 1;
    }

    private static String without(String of, BitSet gone) {
        StringBuilder rest = new StringBuilder();
        for (int i = 0; i < of.length(); i++) {
            rest.append(gone.get(i) ? "" : of.substring(i, i + 1));
        }
        return rest.toString();
    }

    /** The units that are kept then; what is gone of the text is told in the set. */
    private List<int[]> lessen(String of, List<int[]> units, BitSet gone) {
        List<int[]> kept = new ArrayList<>(units);
        int n = kept.size() == 1 ? 1 : 2;
        while (!kept.isEmpty()) {
            List<int[]> next = n >= 2 ? tried(of, kept, gone, n, true) : null;
            if (next != null) {
                kept = next;
                n = kept.size() == 1 ? 1 : 2;
                continue;
            }
            next = n != 2 ? tried(of, kept, gone, n, false) : null;
            if (next != null) {
                kept = next;
                n = Math.min(Math.max(n - 1, 2), kept.size());
                continue;
            }
            if (n == kept.size()) {
                break;
            }
            n = Math.min(2 * n, kept.size());
        }
        return kept;
    }

    private List<int[]> tried(String of, List<int[]> kept, BitSet gone, int n, boolean alone) {
        int m = kept.size();
        for (int i = 0; i < n; i++) {
            List<int[]> part = new ArrayList<>(kept.subList(i * m / n, (i + 1) * m / n));
            List<int[]> others = new ArrayList<>(kept.subList(0, i * m / n));
            others.addAll(kept.subList((i + 1) * m / n, m));
            BitSet then = (BitSet) gone.clone();
            for (int[] unit : alone ? others : part) {
                then.set(unit[0], unit[1]);
            }
            if (goesWrong(without(of, then))) {
                text = without(of, then);
                gone.or(then);
                return alone ? part : others;
            }
        }
        return null;
    }

    private void byLevels() {
        String of = text;
        List<Placed> nodes = parse(of);
        BitSet gone = new BitSet();
        int deepest = 0;
        for (Placed p : nodes) {
            deepest = Math.max(deepest, p.depth);
        }
        for (int depth = 1; depth <= deepest; depth++) {
            List<int[]> units = new ArrayList<>();
            Map<int[], Placed> of1 = new HashMap<>();
            for (Placed p : nodes) {
                if (p.depth == depth) {
                    p.kept = false;
                    if (p.parent.kept) {
                        int[] unit = {p.node.begin, p.node.end};
                        units.add(unit);
                        of1.put(unit, p);
                    }
                }
            }
            for (int[] unit : lessen(of, units, gone)) {
                of1.get(unit).kept = true;
            }
        }
    }

    private boolean moved() {
        List<Placed> nodes = parse(text);
        List<Placed> bySize = new ArrayList<>(nodes);
        bySize.sort(Comparator.comparing(p -> -p.size()));
        for (Placed p : bySize) {
            if (p.node.loose && p.size() > 0 && taken(p, "")) {
                return true;
            }
            for (Placed q : nodes) {
                boolean same = q.node.rule < 6 && q.node.rule == p.node.rule;
                if (q.below(p) && same && q.size() < p.size() && taken(p, text.substring(q.node.begin, q.node.end))) {
                    return true;
                }
            }
        }
        return false;
    }

    private boolean taken(Placed p, String instead) {
        String then = text.substring(0, p.node.begin) + instead + text.substring(p.node.end);
        if (parse(then) == null || !goesWrong(then)) {
            return false;
        }
        text = then;
        return true;
    }
}
