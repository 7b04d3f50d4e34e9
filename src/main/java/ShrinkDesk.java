/**
 * Makes a text smaller as long as it keeps going wrong. The promises of ../shared/DOC.md say what
 * every call answers; the words in capitals there are the words used here.
 */
public final class ShrinkDesk {
    private static final int TEXT_LIMIT = 32;
    private static final int GRAMMAR_LIMIT = 60;
    private static final int NODE_LIMIT = 60;
    private static final int STACK_LIMIT = 6;
    private static final int DEPTH_LIMIT = 6;
    private static final int HELD_LIMIT = 24;
    private static final int PROBE_LIMIT = 400;
    private static final int TIMES_LIMIT = 9;
    /** How many names A .. F there are; the rule number of a node that is just a character. */
    private static final int NAMES = 6;
    /** How many places a text has for a rule to match at: before each character, and its end. */
    private static final int PLACES = 33;
    /** Far above what any run of a loop needs. */
    private static final int MANY = 1000000;

    private final Text typed = new Text();
    private final char[] written = new char[GRAMMAR_LIMIT];
    private int writtenTotal;
    private final Term[] stack = new Term[STACK_LIMIT];
    private int stacked;
    private final Judge judge = new Judge();
    private final Grammar grammar = new Grammar();
    private final Matcher matcher = new Matcher(grammar);
    private final Tree tree = new Tree(grammar, matcher);
    private final Reducer reducer = new Reducer(typed, judge, matcher, tree);
    private int reductions;

    public ShrinkDesk() {
    }

    public boolean type(char c) {
        return isTextSign(c) && typed.put(c);
    }

    public void clear() {
        typed.total = 0;
    }

    public boolean write(char c) {
        if (!isGrammarSign(c) || writtenTotal >= GRAMMAR_LIMIT) {
            return false;
        }
        written[writtenTotal] = c;
        writtenTotal++;
        return true;
    }

    public int read() {
        grammar.become(written, writtenTotal);
        matcher.forget();
        writtenTotal = 0;
        return grammar.valid ? grammar.rules : -1;
    }

    public boolean has(char c, int k) {
        if (!isTextSign(c) || k < 1 || k > TIMES_LIMIT) {
            return false;
        }
        return stacked < STACK_LIMIT && push(new Term(Term.HAS, c, c, k));
    }

    public boolean pair(char c, char d, boolean near) {
        if (!isTextSign(c) || !isTextSign(d)) {
            return false;
        }
        return stacked < STACK_LIMIT && push(new Term(near ? Term.NEXT : Term.BEFORE, c, d, 0));
    }

    public boolean size(int n) {
        if (n < -1 || n > TEXT_LIMIT) {
            return false;
        }
        return stacked < STACK_LIMIT && push(new Term(n == -1 ? Term.EVEN : Term.LONG, ' ', ' ', n));
    }

    public boolean not() {
        if (stacked < 1) {
            return false;
        }
        Term x = stack[stacked - 1];
        if (x == null || x.levels >= DEPTH_LIMIT) {
            return false;
        }
        stack[stacked - 1] = new Term(Term.NOT, x, null, x.levels + 1);
        return true;
    }

    public boolean join(boolean either) {
        if (stacked < 2) {
            return false;
        }
        Term x = stack[stacked - 2];
        Term y = stack[stacked - 1];
        if (x == null || y == null) {
            return false;
        }
        int levels = 1 + Math.max(x.levels, y.levels);
        if (levels > DEPTH_LIMIT) {
            return false;
        }
        stacked--;
        stack[stacked] = null;
        stack[stacked - 1] = new Term(either ? Term.OR : Term.AND, x, y, levels);
        return true;
    }

    public boolean mark(boolean unclear) {
        if (stacked < 1) {
            return false;
        }
        stacked--;
        if (unclear) {
            judge.unclear = stack[stacked];
        } else {
            judge.wrong = stack[stacked];
        }
        stack[stacked] = null;
        judge.forget();
        return true;
    }

    public void remember(boolean on) {
        judge.remembering = on;
        judge.forget();
    }

    public int outcome() {
        return judge.verdict(typed);
    }

    public int nodes() {
        if (!grammar.valid) {
            return -1;
        }
        tree.build(typed);
        return tree.total;
    }

    public int node(int i) {
        return hasNode(i) ? tree.told(i) : -1;
    }

    public int depth(int i) {
        return hasNode(i) ? tree.level[i] : -1;
    }

    public int reduce(int kind, int probes) {
        if (kind < 0 || kind > 4 || probes < 0 || probes > PROBE_LIMIT) {
            return -1;
        }
        if (judge.verdict(typed) != 1) {
            return -2;
        }
        if (kind >= 2 && !tree.build(typed)) {
            return -3;
        }
        reductions++;
        judge.allow(probes);
        if (kind <= 1) {
            reducer.bySigns(kind == 1);
        } else if (kind <= 3) {
            reducer.byLevels(kind == 3);
        } else {
            reducer.byMoves();
        }
        return typed.total;
    }

    public int length() {
        return typed.total;
    }

    public char at(int i) {
        return i < 0 || i >= typed.total ? (char) 0 : typed.signs[i];
    }

    public int count(int which) {
        switch (which) {
            case 0:
                return judge.probes;
            case 1:
                return judge.hits;
            case 2:
                return reductions;
            case 3:
                return judge.ended ? 1 : 0;
            case 4:
                return judge.held;
            default:
                return -1;
        }
    }

    /** The caller has looked that there is room, so that no term is made in vain. */
    private boolean push(Term term) {
        if (stacked >= STACK_LIMIT) {
            return false;
        }
        stack[stacked] = term;
        stacked++;
        return true;
    }

    private boolean hasNode(int i) {
        if (i < 0 || i >= NODE_LIMIT || !grammar.valid) {
            return false;
        }
        return tree.build(typed) && i < tree.total;
    }

    private static boolean isTextSign(char c) {
        return c >= 'a' && c <= 'z' || c >= '0' && c <= '9'
            || c == ' ' || c == ',' || c == '-' || c == '(' || c == ')';
    }

    private static boolean isName(char c) {
        return c >= 'A' && c <= 'F';
    }

    private static boolean isTail(char c) {
        return c == '?' || c == '*' || c == '+';
    }

    private static boolean isGrammarSign(char c) {
        return isTextSign(c) || isName(c) || isTail(c) || c == '=' || c == '/' || c == ';';
    }

    /** Up to 32 characters. */
    private static final class Text {
        final char[] signs = new char[TEXT_LIMIT];
        int total;

        Text() {
        }

        boolean put(char c) {
            if (total >= TEXT_LIMIT) {
                return false;
            }
            signs[total] = c;
            total++;
            return true;
        }

        /** Puts the characters of another text, from one place to before another one, behind these. */
        void putSome(Text other, int from, int to) {
            for (int i = from; i >= 0 && i < to && i < other.total; i++) {
                put(other.signs[i]);
            }
        }

        void become(Text other) {
            total = 0;
            putSome(other, 0, other.total);
        }

        boolean holdsSign(char c, int times) {
            int found = 0;
            for (int i = 0; i < total; i++) {
                if (signs[i] == c) {
                    found++;
                }
            }
            return found >= times;
        }

        boolean holdsPair(char c, char d, boolean near) {
            boolean open = false;
            for (int i = 0; i < total; i++) {
                if (open && signs[i] == d) {
                    return true;
                }
                open = signs[i] == c || open && !near;
            }
            return false;
        }
    }

    /** A term over texts: of characters and a number, or of one or two other terms. */
    private static final class Term {
        static final int HAS = 0;
        static final int BEFORE = 1;
        static final int NEXT = 2;
        static final int LONG = 3;
        static final int EVEN = 4;
        static final int NOT = 5;
        static final int AND = 6;
        static final int OR = 7;

        final int kind;
        final char c;
        final char d;
        final int n;
        final Term x;
        final Term y;
        /** The DEPTH of the document. */
        final int levels;

        Term(int kind, char c, char d, int n) {
            this.kind = kind;
            this.c = c;
            this.d = d;
            this.n = n;
            x = null;
            y = null;
            this.levels = 1;
        }

        Term(int kind, Term x, Term y, int levels) {
            this.kind = kind;
            c = ' ';
            d = ' ';
            n = 0;
            this.x = x;
            this.y = y;
            this.levels = levels;
        }
    }

    /** Tells outcomes, remembers the texts that were asked for, and counts probes and hits. */
    private static final class Judge {
        Term wrong;
        Term unclear;
        boolean remembering = true;
        int probes;
        int hits;
        /** Whether the latest reduction ended for want of probes; then nothing is asked any more. */
        boolean ended;
        int held;
        private int allowed;
        /** A ring: the remembered texts stand from the slot of the oldest one on. */
        private int oldest;
        private final char[] heldSigns = new char[HELD_LIMIT * TEXT_LIMIT];
        private final int[] heldTotals = new int[HELD_LIMIT];

        Judge() {
        }

        int verdict(Text text) {
            if (holds(wrong, text, 1)) {
                return 1;
            }
            return holds(unclear, text, 1) ? 2 : 0;
        }

        void allow(int probesAllowed) {
            allowed = probesAllowed;
            ended = false;
        }

        void forget() {
            held = 0;
            oldest = 0;
        }

        /** The outcome of a text that is asked for; 0 when the reduction ends instead. */
        int ask(Text text) {
            if (ended) {
                return 0;
            }
            if (isHeld(text)) {
                hits++;
                return verdict(text);
            }
            if (allowed <= 0) {
                ended = true;
                return 0;
            }
            allowed--;
            probes++;
            if (remembering) {
                hold(text);
            }
            return verdict(text);
        }

        private boolean isHeld(Text text) {
            for (int slot = 0; slot < held; slot++) {
                if (heldTotals[slot] == text.total && isHeldAt(slot, text)) {
                    return true;
                }
            }
            return false;
        }

        private boolean isHeldAt(int slot, Text text) {
            int from = slot * TEXT_LIMIT;
            for (int i = 0; i < text.total; i++) {
                if (heldSigns[from + i] != text.signs[i]) {
                    return false;
                }
            }
            return true;
        }

        /** As long as there is room the slots fill from 0 on; later the oldest one is used again. */
        private void hold(Text text) {
            int slot = held;
            if (held < HELD_LIMIT) {
                held++;
            } else {
                slot = oldest;
                oldest = (oldest + 1) % HELD_LIMIT;
            }
            heldTotals[slot] = text.total;
            for (int i = 0; i < text.total; i++) {
                heldSigns[slot * TEXT_LIMIT + i] = text.signs[i];
            }
        }

        private static boolean holds(Term term, Text text, int level) {
            if (term == null || level > DEPTH_LIMIT) {
                return false;
            }
            switch (term.kind) {
                case Term.HAS:
                    return text.holdsSign(term.c, term.n);
                case Term.BEFORE:
                    return text.holdsPair(term.c, term.d, false);
                case Term.NEXT:
                    return text.holdsPair(term.c, term.d, true);
                case Term.LONG:
                    return text.total >= term.n;
                case Term.EVEN:
                    return text.total % 2 == 0;
                case Term.NOT:
                    return !holds(term.x, text, level + 1);
                case Term.AND:
                    return holds(term.x, text, level + 1) && holds(term.y, text, level + 1);
                default:
                    return holds(term.x, text, level + 1) || holds(term.y, text, level + 1);
            }
        }
    }

    /**
     * The items of all alternatives in one row; the alternatives of all rules in one row over the
     * items; each rule a run of these.
     */
    private static final class Grammar {
        /** What may come next while a grammar is read. */
        private static final int NAME = 0;
        private static final int EQUALS = 1;
        private static final int ITEM = 2;
        private static final int ITEM_OR_TAIL = 3;
        private static final int NOTHING = -1;
        private static final char NO_TAIL = ' ';

        /** Whether there is a grammar; what is told below counts just then. */
        boolean valid;
        int start;
        int rules;
        /** The rules, each behind those that it leads to. */
        final int[] order = new int[NAMES];
        private int ordered;
        private final char[] what = new char[GRAMMAR_LIMIT];
        private final char[] tail = new char[GRAMMAR_LIMIT];
        private final int[] named = new int[GRAMMAR_LIMIT];
        private int items;
        private final int[] firstItem = new int[GRAMMAR_LIMIT + 1];
        private int alternatives;
        private final int[] firstAlternative = new int[NAMES];
        private final int[] endAlternative = new int[NAMES];
        private int open;
        private final boolean[] defined = new boolean[NAMES];
        private final boolean[] emptiable = new boolean[NAMES];
        private final boolean[] placed = new boolean[NAMES];

        Grammar() {
        }

        void become(char[] signs, int total) {
            forget();
            valid = isCut(signs, total) && isEveryNameDefined();
            if (valid) {
                findEmptiable();
                findOrder();
                valid = ordered == rules;
            }
        }

        int firstOf(int rule) {
            return rule < 0 || rule >= NAMES || !defined[rule] ? 0 : firstAlternative[rule];
        }

        int endOf(int rule) {
            return rule < 0 || rule >= NAMES || !defined[rule] ? 0 : endAlternative[rule];
        }

        int firstItemOf(int alternative) {
            return alternative < 0 || alternative >= alternatives ? 0 : firstItem[alternative];
        }

        int endItemOf(int alternative) {
            return alternative < 0 || alternative >= alternatives ? 0 : firstItem[alternative + 1];
        }

        char whatOf(int item) {
            return item < 0 || item >= items ? NO_TAIL : what[item];
        }

        /** The rule that an item names, or NAMES when it is a character. */
        int ruleOf(int item) {
            return item < 0 || item >= items ? NAMES : named[item];
        }

        boolean hasTail(int item) {
            return item >= 0 && item < items && tail[item] != NO_TAIL;
        }

        boolean hasStar(int item) {
            return item >= 0 && item < items && tail[item] == '*';
        }

        boolean mayRepeat(int item) {
            return item >= 0 && item < items && (tail[item] == '*' || tail[item] == '+');
        }

        boolean mayBeLeftOut(int item) {
            return item >= 0 && item < items && (tail[item] == '*' || tail[item] == '?');
        }

        private void forget() {
            rules = 0;
            ordered = 0;
            items = 0;
            alternatives = 0;
            for (int rule = 0; rule < NAMES; rule++) {
                defined[rule] = false;
                emptiable[rule] = false;
                placed[rule] = false;
            }
        }

        /** Cuts what was typed into rules, alternatives and items; false when it is no row of rules. */
        private boolean isCut(char[] signs, int total) {
            int next = NAME;
            for (int i = 0; i < total && i < signs.length; i++) {
                next = step(next, signs[i]);
                if (next == NOTHING) {
                    return false;
                }
            }
            firstItem[alternatives] = items;
            return next == NAME && rules > 0;
        }

        private int step(int next, char c) {
            if (next == NAME) {
                return opens(c) ? EQUALS : NOTHING;
            }
            if (next == EQUALS) {
                return c == '=' ? ITEM : NOTHING;
            }
            if (c == ';') {
                endAlternative[open] = alternatives;
                return NAME;
            }
            if (c == '/') {
                addAlternative();
                return ITEM;
            }
            if (isTail(c)) {
                if (next != ITEM_OR_TAIL || items < 1) {
                    return NOTHING;
                }
                tail[items - 1] = c;
                return ITEM;
            }
            return c != '=' && addsItem(c) ? ITEM_OR_TAIL : NOTHING;
        }

        private boolean opens(char c) {
            if (!isName(c) || defined[c - 'A']) {
                return false;
            }
            open = c - 'A';
            defined[open] = true;
            if (rules == 0) {
                start = open;
            }
            rules++;
            firstAlternative[open] = alternatives;
            addAlternative();
            return true;
        }

        private void addAlternative() {
            if (alternatives < GRAMMAR_LIMIT) {
                firstItem[alternatives] = items;
                alternatives++;
            }
        }

        private boolean addsItem(char c) {
            if (items >= GRAMMAR_LIMIT) {
                return false;
            }
            what[items] = c;
            tail[items] = NO_TAIL;
            named[items] = isName(c) ? c - 'A' : NAMES;
            items++;
            return true;
        }

        private boolean isEveryNameDefined() {
            for (int item = 0; item < items; item++) {
                int rule = ruleOf(item);
                if (rule < NAMES && !defined[rule]) {
                    return false;
                }
            }
            return true;
        }

        /** Each round finds one more rule at least, as long as there is one to be found. */
        private void findEmptiable() {
            for (int round = 0; round < NAMES; round++) {
                for (int rule = 0; rule < NAMES; rule++) {
                    emptiable[rule] = emptiable[rule] || isEmptiable(rule);
                }
            }
        }

        private boolean isEmptiable(int rule) {
            for (int a = firstOf(rule); a < endOf(rule); a++) {
                boolean all = true;
                for (int item = firstItemOf(a); item < endItemOf(a); item++) {
                    all = all && mayBeEmpty(item);
                }
                if (all) {
                    return true;
                }
            }
            return false;
        }

        private boolean mayBeEmpty(int item) {
            int rule = ruleOf(item);
            return mayBeLeftOut(item) || rule < NAMES && emptiable[rule];
        }

        /** A rule that leads to itself, once or several times, can't be placed, and is missing then. */
        private void findOrder() {
            for (int round = 0; round < NAMES; round++) {
                for (int rule = 0; rule < NAMES; rule++) {
                    if (defined[rule] && !placed[rule] && ordered < NAMES && leadsToPlaced(rule)) {
                        order[ordered] = rule;
                        ordered++;
                        placed[rule] = true;
                    }
                }
            }
        }

        private boolean leadsToPlaced(int rule) {
            for (int a = firstOf(rule); a < endOf(rule); a++) {
                boolean leading = true;
                for (int item = firstItemOf(a); leading && item < endItemOf(a); item++) {
                    int led = ruleOf(item);
                    if (led < NAMES && !placed[led]) {
                        return false;
                    }
                    leading = mayBeEmpty(item);
                }
            }
            return true;
        }
    }

    /**
     * How each rule matches at each place of a text. A place is told by how many characters are left
     * from there on: so all that was found out behind the last change of the text stays as it is.
     */
    private static final class Matcher {
        private final Grammar grammar;
        private final char[] signs = new char[TEXT_LIMIT];
        private int total;
        /** Whether the cells are right for the grammar and the characters here. */
        private boolean filled;
        /** By cell: what is left behind the rule, or -1 when it doesn't match. */
        private final int[] rest = new int[NAMES * PLACES];
        /** By cell: how many nodes stand below one of the rule, NODE_LIMIT standing for more too. */
        private final int[] below = new int[NAMES * PLACES];
        /** By cell: the alternative that matched. */
        private final int[] alternative = new int[NAMES * PLACES];
        private int counted;

        Matcher(Grammar grammar) {
            this.grammar = grammar;
        }

        void forget() {
            filled = false;
        }

        /** Whether a text parses. */
        boolean fits(Text text) {
            if (!grammar.valid) {
                return false;
            }
            int from = filled ? sameAtEnd(text) + 1 : 0;
            total = text.total;
            for (int i = 0; i < total; i++) {
                signs[i] = text.signs[i];
            }
            for (int left = from; left <= total; left++) {
                for (int k = 0; k < grammar.rules; k++) {
                    settle(grammar.order[k], left);
                }
            }
            filled = true;
            int cell = cellOf(grammar.start, total);
            return rest[cell] == 0 && below[cell] < NODE_LIMIT;
        }

        /** The alternative of a rule that matched where so many characters are left. */
        int alternativeOf(int rule, int left) {
            return alternative[cellOf(rule, left)];
        }

        /**
         * What is left when an item that was taken so often there is taken once more, or -1 when it
         * isn't.
         */
        int more(int item, int times, int left) {
            if (times > 0 && !grammar.mayRepeat(item)) {
                return -1;
            }
            int rule = grammar.ruleOf(item);
            int next = -1;
            if (rule < NAMES) {
                next = rest[cellOf(rule, left)];
            } else if (left > 0 && left <= total && signs[total - left] == grammar.whatOf(item)) {
                next = left - 1;
            }
            boolean mustTake = times > 0 || grammar.hasStar(item);
            return mustTake && next == left ? -1 : next;
        }

        private static int cellOf(int rule, int left) {
            return rule < 0 || rule >= NAMES || left < 0 || left >= PLACES ? 0 : rule * PLACES + left;
        }

        private int sameAtEnd(Text text) {
            int same = 0;
            while (same < total && same < text.total
                && signs[total - 1 - same] == text.signs[text.total - 1 - same]) {
                same++;
            }
            return same;
        }

        /** Needs the cells of the places behind, and here those of the rules that this one leads to. */
        private void settle(int rule, int left) {
            int cell = cellOf(rule, left);
            rest[cell] = -1;
            for (int a = grammar.firstOf(rule); rest[cell] < 0 && a < grammar.endOf(rule); a++) {
                rest[cell] = behind(a, left);
                below[cell] = counted;
                alternative[cell] = a;
            }
        }

        /** What is left behind an alternative, or -1 when it doesn't match; its nodes are counted. */
        private int behind(int a, int left) {
            counted = 0;
            int now = left;
            for (int item = grammar.firstItemOf(a); item < grammar.endItemOf(a); item++) {
                int next = more(item, 0, now);
                if (next < 0 && !grammar.mayBeLeftOut(item)) {
                    return -1;
                }
                for (int times = 1; next >= 0 && times <= PLACES; times++) {
                    counted = Math.min(NODE_LIMIT, counted + nodesOf(item, now));
                    now = next;
                    next = more(item, times, now);
                }
            }
            return now;
        }

        /** How many nodes one taking of an item gives. */
        private int nodesOf(int item, int left) {
            int rule = grammar.ruleOf(item);
            if (rule < NAMES) {
                return 1 + below[cellOf(rule, left)];
            }
            return grammar.hasTail(item) ? 1 : 0;
        }
    }

    /** The tree of a text, by the numbers of its nodes. */
    private static final class Tree {
        private final Grammar grammar;
        private final Matcher matcher;
        int total;
        final int[] rule = new int[NODE_LIMIT];
        final boolean[] loose = new boolean[NODE_LIMIT];
        final int[] begin = new int[NODE_LIMIT];
        final int[] signs = new int[NODE_LIMIT];
        final int[] level = new int[NODE_LIMIT];
        final int[] parent = new int[NODE_LIMIT];
        private int textTotal;

        Tree(Grammar grammar, Matcher matcher) {
            this.grammar = grammar;
            this.matcher = matcher;
        }

        /** False, and no node, when the text doesn't parse. */
        boolean build(Text text) {
            total = 0;
            if (!matcher.fits(text)) {
                return false;
            }
            textTotal = text.total;
            rule[0] = grammar.start;
            loose[0] = false;
            begin[0] = 0;
            signs[0] = textTotal;
            level[0] = 0;
            parent[0] = -1;
            total = 1;
            grow(this, 0, 1);
            return true;
        }

        /** Node i as the face tells it. */
        int told(int i) {
            return 10000 * rule[i] + (loose[i] ? 5000 : 0) + 40 * begin[i] + signs[i];
        }

        int deepest() {
            int most = 0;
            for (int i = 0; i < total; i++) {
                most = Math.max(most, level[i]);
            }
            return most;
        }

        /** Each level has a node of its own, so there are no more levels than nodes. */
        private static void grow(Tree tree, int above, int depthNow) {
            if (depthNow >= NODE_LIMIT) {
                return;
            }
            Grammar grammar = tree.grammar;
            Matcher matcher = tree.matcher;
            int left = tree.textTotal - tree.begin[above];
            int a = matcher.alternativeOf(tree.rule[above], left);
            for (int item = grammar.firstItemOf(a); item < grammar.endItemOf(a); item++) {
                int next = matcher.more(item, 0, left);
                for (int times = 1; next >= 0 && times <= PLACES; times++) {
                    int node = tree.put(item, above, left, next);
                    if (node >= 0) {
                        tree.loose[node] = tree.isLoose(item, times, next);
                    }
                    if (node >= 0 && tree.rule[node] < NAMES) {
                        grow(tree, node, depthNow + 1);
                    }
                    left = next;
                    next = matcher.more(item, times, left);
                }
            }
        }

        /** The new node of an item that was taken, or -1 when it gives none. */
        private int put(int item, int above, int left, int next) {
            int itemRule = grammar.ruleOf(item);
            if (itemRule == NAMES && !grammar.hasTail(item) || total >= NODE_LIMIT) {
                return -1;
            }
            int i = total;
            rule[i] = itemRule;
            begin[i] = textTotal - left;
            signs[i] = left - next;
            level[i] = level[above] + 1;
            parent[i] = above;
            total++;
            return i;
        }

        private boolean isLoose(int item, int times, int next) {
            if (grammar.mayBeLeftOut(item)) {
                return true;
            }
            return grammar.mayRepeat(item) && (times > 1 || matcher.more(item, times, next) >= 0);
        }
    }

    /** Units of a text, and how they are lessened. */
    private static final class Lessening {
        private final Text typed;
        private final Judge judge;
        private final Text base = new Text();
        private final Text trial = new Text();
        /** By place of the base: whether the character is left out; and whether it is in the trial. */
        private final boolean[] gone = new boolean[TEXT_LIMIT];
        private final boolean[] goneInTrial = new boolean[TEXT_LIMIT];
        /** The units that are kept: where they begin and end in the base, and their nodes. */
        int kept;
        private final int[] from = new int[NODE_LIMIT];
        private final int[] to = new int[NODE_LIMIT];
        final int[] ofNode = new int[NODE_LIMIT];

        Lessening(Text typed, Judge judge) {
            this.typed = typed;
            this.judge = judge;
        }

        /** The units to come are parts of the typed text as it is now. */
        void begin() {
            base.become(typed);
            for (int i = 0; i < TEXT_LIMIT; i++) {
                gone[i] = false;
            }
            kept = 0;
        }

        void addUnit(int first, int end, int node) {
            if (kept < NODE_LIMIT) {
                from[kept] = first;
                to[kept] = end;
                ofNode[kept] = node;
                kept++;
            }
        }

        void lessen() {
            int parts = Math.min(2, kept);
            for (int round = 0; kept > 0 && !judge.ended && round < MANY; round++) {
                if (parts >= 2 && takes(parts, true)) {
                    parts = Math.min(2, kept);
                } else if (parts != 2 && takes(parts, false)) {
                    parts = Math.min(Math.max(2, parts - 1), kept);
                } else if (parts >= kept) {
                    return;
                } else {
                    parts = Math.min(2 * parts, kept);
                }
            }
        }

        /** Asks for the text with each part alone, or without each part, and takes the first to go wrong. */
        private boolean takes(int parts, boolean alone) {
            for (int part = 0; part < parts && !judge.ended; part++) {
                int first = part * kept / parts;
                int end = (part + 1) * kept / parts;
                makeTrial(first, end, alone);
                if (judge.ask(trial) == 1) {
                    typed.become(trial);
                    keepTrial(first, end, alone);
                    return true;
                }
            }
            return false;
        }

        private void makeTrial(int first, int end, boolean alone) {
            for (int i = 0; i < TEXT_LIMIT; i++) {
                goneInTrial[i] = gone[i];
            }
            for (int unit = 0; unit < kept; unit++) {
                boolean inPart = unit >= first && unit < end;
                for (int i = from[unit]; inPart != alone && i < to[unit]; i++) {
                    goneInTrial[i] = true;
                }
            }
            trial.total = 0;
            for (int i = 0; i < base.total; i++) {
                if (!goneInTrial[i]) {
                    trial.put(base.signs[i]);
                }
            }
        }

        private void keepTrial(int first, int end, boolean alone) {
            for (int i = 0; i < TEXT_LIMIT; i++) {
                gone[i] = goneInTrial[i];
            }
            int units = kept;
            kept = 0;
            for (int unit = 0; unit < units; unit++) {
                boolean inPart = unit >= first && unit < end;
                if (inPart == alone) {
                    addUnit(from[unit], to[unit], ofNode[unit]);
                }
            }
        }
    }

    /** The five kinds of reductions of the typed text, which goes wrong (and parses, for 2 .. 4). */
    private static final class Reducer {
        private final Text typed;
        private final Judge judge;
        private final Matcher matcher;
        private final Tree tree;
        private final Lessening lessening;
        private final Text trial = new Text();
        /** By node, while levels are lessened: whether it is still kept. */
        private final boolean[] alive = new boolean[NODE_LIMIT];

        Reducer(Text typed, Judge judge, Matcher matcher, Tree tree) {
            this.typed = typed;
            this.judge = judge;
            this.matcher = matcher;
            this.tree = tree;
            lessening = new Lessening(typed, judge);
        }

        void bySigns(boolean words) {
            lessening.begin();
            int first = 0;
            for (int i = 1; i <= typed.total; i++) {
                if (!words || i == typed.total || beginsWord(i)) {
                    lessening.addUnit(first, i, 0);
                    first = i;
                }
            }
            lessening.lessen();
        }

        void byLevels(boolean again) {
            boolean going = tree.build(typed);
            for (int round = 0; going && round <= TEXT_LIMIT; round++) {
                int before = typed.total;
                lessening.begin();
                int deepest = tree.deepest();
                for (int level = 1; level <= deepest && !judge.ended; level++) {
                    chooseUnits(level);
                    lessening.lessen();
                    keepUnits();
                }
                going = again && !judge.ended && typed.total < before && tree.build(typed);
            }
        }

        /** Goes through the nodes by falling number of characters, and begins anew with each move. */
        void byMoves() {
            tree.build(typed);
            int signs = typed.total;
            int node = 0;
            for (int step = 0; signs > 0 && !judge.ended && step < MANY; step++) {
                if (node >= tree.total) {
                    signs--;
                    node = 0;
                } else if (tree.signs[node] == signs && takesMove(node)) {
                    tree.build(typed);
                    signs = typed.total;
                    node = 0;
                } else {
                    node++;
                }
            }
        }

        private boolean beginsWord(int i) {
            return i > 0 && i < typed.total && typed.signs[i] != ' ' && typed.signs[i - 1] == ' ';
        }

        private void chooseUnits(int level) {
            lessening.kept = 0;
            alive[0] = true;
            for (int i = 1; i < tree.total; i++) {
                if (tree.level[i] == level) {
                    alive[i] = false;
                    if (isBelowKept(i)) {
                        lessening.addUnit(tree.begin[i], tree.begin[i] + tree.signs[i], i);
                    }
                }
            }
        }

        private boolean isBelowKept(int i) {
            int above = tree.parent[i];
            return above >= 0 && above < tree.total && alive[above];
        }

        private void keepUnits() {
            for (int unit = 0; unit < lessening.kept; unit++) {
                alive[lessening.ofNode[unit]] = true;
            }
        }

        /** The move of a node to itself stands for the one that leaves its characters out. */
        private boolean takesMove(int node) {
            int begin = tree.begin[node];
            int end = begin + tree.signs[node];
            for (int j = node; j < tree.total && (j == node || isBelow(j, node)); j++) {
                if (isMove(node, j)) {
                    trial.total = 0;
                    trial.putSome(typed, 0, begin);
                    trial.putSome(typed, tree.begin[j], tree.begin[j] + (j == node ? 0 : tree.signs[j]));
                    trial.putSome(typed, end, typed.total);
                    if (matcher.fits(trial) && judge.ask(trial) == 1) {
                        typed.become(trial);
                        return true;
                    }
                }
            }
            return false;
        }

        /** For nodes numbered in a row from the one on: the first that isn't deeper ends what is below. */
        private boolean isBelow(int j, int node) {
            return tree.level[j] > tree.level[node];
        }

        private boolean isMove(int node, int j) {
            if (j == node) {
                return tree.loose[node];
            }
            return tree.rule[j] < NAMES && tree.rule[j] == tree.rule[node] && tree.signs[j] < tree.signs[node];
        }
    }
}
