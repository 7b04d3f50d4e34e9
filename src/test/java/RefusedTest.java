import java.util.LinkedHashMap;
import java.util.Map;
import java.util.function.Consumer;
import java.util.function.Function;
import java.util.function.Supplier;

/**
 * "A call that is refused (false, or a negative number) changes nothing, but read(), as told there."
 * Two objects are made by the same calls; one of them gets a refused call more. Then everything that
 * calls can tell of them is compared.
 */
public final class RefusedTest {
    /** Few enough of them for the 512 calls of an object. */
    private static final String[] TEXTS = {"", "a", "b", "ab", "ba", "aab", "a(a)", "(a)a", "((a))", "abab", "a b", "q"};
    private static final String GRAMMAR = "A=B*;B=a/b/(A);";
    private static final String FULL_GRAMMAR = "A=B*;B=a/b/(A)/" + "c".repeat(44) + ";";

    private final Due due = new Due("RefusedTest");
    private final Map<String, Supplier<ShrinkDesk>> states = new LinkedHashMap<>();
    private final Map<String, Function<ShrinkDesk, String>> looks = new LinkedHashMap<>();

    public static void main(String[] args) {
        RefusedTest test = new RefusedTest();
        test.states();
        test.looks();
        test.looksDiffer();
        test.refusedEverywhere();
        test.refusedByTheState();
        test.asks();
        test.readAlone();
        test.due.end();
    }

    private void states() {
        states.put("new", ShrinkDesk::new);
        states.put("used", RefusedTest::used);
        states.put("full", RefusedTest::full);
        states.put("ended", RefusedTest::ended);
        states.put("deep", RefusedTest::deep);
        states.put("off", RefusedTest::off);
        states.put("no parse", RefusedTest::noParse);
        states.put("emptied", RefusedTest::emptied);
    }

    /** Something of each kind, and nothing at its end. */
    private static ShrinkDesk used() {
        ShrinkDesk desk = Hand.desk("a(a)", "ha1", GRAMMAR);
        Hand.mark(desk, "hb1", true);
        desk.reduce(4, 400);
        Hand.retype(desk, "a(a)b");
        Hand.put(desk, "hb1;nab;!");
        Hand.write(desk, "A=a?b");
        return desk;
    }

    /** A full text, 60 characters for a grammar, six terms, 24 remembered texts. */
    private static ShrinkDesk full() {
        ShrinkDesk desk = Hand.desk("ab".repeat(16), "l32", FULL_GRAMMAR);
        Hand.mark(desk, "hb1", true);
        desk.reduce(0, 30);
        Hand.put(desk, "ha1;bab;nab;l3;e;h 9");
        Hand.write(desk, FULL_GRAMMAR);
        return desk;
    }

    private static ShrinkDesk ended() {
        ShrinkDesk desk = Hand.desk("a(a)b", "ha2", GRAMMAR);
        desk.reduce(0, 3);
        Hand.retype(desk, "ab");
        Hand.put(desk, "ha1");
        return desk;
    }

    /** Terms of depth 6 and of depth 1. */
    private static ShrinkDesk deep() {
        ShrinkDesk desk = Hand.desk("ab", "ha1", GRAMMAR);
        Hand.put(desk, "hq1;ha1;!;!;!;!;!");
        return desk;
    }

    private static ShrinkDesk off() {
        ShrinkDesk desk = Hand.desk("aab", "ha1");
        desk.remember(false);
        desk.reduce(0, 400);
        Hand.retype(desk, "q");
        Hand.write(desk, "A=a");
        return desk;
    }

    private static ShrinkDesk noParse() {
        ShrinkDesk desk = Hand.desk("a)", "ha1", GRAMMAR);
        desk.reduce(1, 400);
        return desk;
    }

    private static ShrinkDesk emptied() {
        ShrinkDesk desk = Hand.desk("aab", "ha1", GRAMMAR);
        desk.reduce(3, 400);
        Hand.read(desk, "A");
        desk.clear();
        return desk;
    }

    private void looks() {
        looks.put("text", desk -> Hand.text(desk) + "|" + desk.length() + "|" + desk.at(0) + desk.at(31) + desk.at(32));
        looks.put("counts", Hand::counts);
        looks.put("outcome", desk -> "" + desk.outcome());
        looks.put("tree", desk -> desk.nodes() + Hand.tree(desk));
        looks.put("room for the text", RefusedTest::roomForText);
        looks.put("outcomes", RefusedTest::outcomes);
        looks.put("terms", RefusedTest::terms);
        looks.put("depths", RefusedTest::depths);
        looks.put("room for terms", RefusedTest::roomForTerms);
        looks.put("trees", RefusedTest::trees);
        looks.put("what is typed for a grammar", RefusedTest::written);
        looks.put("room for a grammar", RefusedTest::roomForGrammar);
        looks.put("reductions", RefusedTest::reductions);
        looks.put("remembered by order", RefusedTest::order);
        looks.put("is remembering on", RefusedTest::remembering);
    }

    private static String roomForText(ShrinkDesk desk) {
        int room = 0;
        while (room < 40 && desk.type('q')) {
            room++;
        }
        return room + Hand.text(desk);
    }

    private static String outcomes(ShrinkDesk desk) {
        StringBuilder told = new StringBuilder();
        for (String text : new String[] {"", "a", "b", "ab", "q"}) {
            Hand.retype(desk, text);
            told.append(desk.outcome());
        }
        return told.toString();
    }

    private static String terms(ShrinkDesk desk) {
        StringBuilder told = new StringBuilder();
        for (int i = 0; i < 8; i++) {
            told.append(desk.mark(false)).append(outcomes(desk)).append(' ');
        }
        return told.toString();
    }

    private static String depths(ShrinkDesk desk) {
        StringBuilder told = new StringBuilder();
        for (int i = 0; i < 8; i++) {
            told.append(desk.join(false)).append(desk.not()).append(desk.not()).append(desk.mark(true)).append(' ');
        }
        return told.toString();
    }

    private static String roomForTerms(ShrinkDesk desk) {
        StringBuilder told = new StringBuilder();
        for (int i = 0; i < 8; i++) {
            told.append(desk.has('a', 1)).append(' ');
        }
        return told + terms(desk);
    }

    private static String trees(ShrinkDesk desk) {
        StringBuilder told = new StringBuilder();
        for (String text : TEXTS) {
            Hand.retype(desk, text);
            told.append(desk.nodes()).append(' ').append(desk.node(1)).append(' ').append(desk.depth(2)).append(',');
        }
        return told.toString();
    }

    private static String written(ShrinkDesk desk) {
        Hand.write(desk, "c;");
        return desk.read() + trees(desk);
    }

    private static String roomForGrammar(ShrinkDesk desk) {
        int room = 0;
        while (room < 70 && desk.write('a')) {
            room++;
        }
        return room + " " + desk.read();
    }

    private static String reductions(ShrinkDesk desk) {
        StringBuilder told = new StringBuilder();
        for (String text : TEXTS) {
            for (int kind = 0; kind <= 4; kind += 4) {
                Hand.retype(desk, text);
                told.append(desk.reduce(kind, 400)).append(Hand.counts(desk)).append(',');
            }
        }
        return told.toString();
    }

    /** Each text that is not remembered pushes out the one that has been remembered longest. */
    private static String order(ShrinkDesk desk) {
        StringBuilder told = new StringBuilder();
        for (int length = 32; length >= 20; length -= 3) {
            Hand.retype(desk, "ab".repeat(length / 2));
            desk.reduce(0, 1);
            told.append(Hand.counts(desk)).append(',');
        }
        return told.toString();
    }

    private static String remembering(ShrinkDesk desk) {
        Hand.retype(desk, "abab");
        desk.reduce(0, 400);
        return Hand.counts(desk);
    }

    /** What is compared tells each state from each other one. */
    private void looksDiffer() {
        for (String one : states.keySet()) {
            for (String other : states.keySet()) {
                boolean same = true;
                for (Function<ShrinkDesk, String> look : looks.values()) {
                    same = same && look.apply(states.get(one).get()).equals(look.apply(states.get(other).get()));
                }
                due.is("\"" + one + "\" looks as \"" + other + "\"", same, one.equals(other));
            }
        }
    }

    private void unchanged(String state, String call, Consumer<ShrinkDesk> calls) {
        for (Map.Entry<String, Function<ShrinkDesk, String>> look : looks.entrySet()) {
            ShrinkDesk desk = states.get(state).get();
            calls.accept(desk);
            String want = look.getValue().apply(states.get(state).get());
            due.is(look.getKey() + " of \"" + state + "\" after " + call, look.getValue().apply(desk), want);
        }
    }

    private void refused(String state, String call, Function<ShrinkDesk, Boolean> calls) {
        due.is(call + " of \"" + state + "\"", calls.apply(states.get(state).get()), false);
        unchanged(state, call, calls::apply);
    }

    private void refused(String state, String call, Function<ShrinkDesk, Integer> calls, int want) {
        due.is(call + " of \"" + state + "\"", calls.apply(states.get(state).get()), want);
        unchanged(state, call, calls::apply);
    }

    /** What is refused in each state. */
    private void refusedEverywhere() {
        for (String state : states.keySet()) {
            refused(state, "type(A)", desk -> desk.type('A'));
            refused(state, "type(+)", desk -> desk.type('+'));
            refused(state, "write(G)", desk -> desk.write('G'));
            refused(state, "write(.)", desk -> desk.write('.'));
            refused(state, "has(A, 1)", desk -> desk.has('A', 1));
            refused(state, "has(a, 0)", desk -> desk.has('a', 0));
            refused(state, "has(a, 10)", desk -> desk.has('a', 10));
            refused(state, "pair(A, a, false)", desk -> desk.pair('A', 'a', false));
            refused(state, "pair(a, A, true)", desk -> desk.pair('a', 'A', true));
            refused(state, "size(-2)", desk -> desk.size(-2));
            refused(state, "size(33)", desk -> desk.size(33));
            refused(state, "reduce(-1, 9)", desk -> desk.reduce(-1, 9), -1);
            refused(state, "reduce(5, 9)", desk -> desk.reduce(5, 9), -1);
            refused(state, "reduce(0, -1)", desk -> desk.reduce(0, -1), -1);
            refused(state, "reduce(0, 401)", desk -> desk.reduce(0, 401), -1);
            refused(state, "node(-1)", desk -> desk.node(-1), -1);
            refused(state, "node(60)", desk -> desk.node(60), -1);
            refused(state, "depth(-1)", desk -> desk.depth(-1), -1);
            refused(state, "depth(60)", desk -> desk.depth(60), -1);
            refused(state, "count(-1)", desk -> desk.count(-1), -1);
            refused(state, "count(5)", desk -> desk.count(5), -1);
        }
    }

    /** What is refused as something is full, or missing. */
    private void refusedByTheState() {
        refused("full", "type(a)", desk -> desk.type('a'));
        refused("full", "write(a)", desk -> desk.write('a'));
        refused("full", "has(a, 1)", desk -> desk.has('a', 1));
        refused("full", "pair(a, b, false)", desk -> desk.pair('a', 'b', false));
        refused("full", "pair(a, b, true)", desk -> desk.pair('a', 'b', true));
        refused("full", "size(3)", desk -> desk.size(3));
        refused("full", "size(-1)", desk -> desk.size(-1));
        refused("deep", "not()", ShrinkDesk::not);
        refused("deep", "join(false)", desk -> desk.join(false));
        refused("deep", "join(true)", desk -> desk.join(true));
        for (String state : new String[] {"new", "off", "no parse", "emptied"}) {
            refused(state, "not()", ShrinkDesk::not);
            refused(state, "join(false)", desk -> desk.join(false));
            refused(state, "join(true)", desk -> desk.join(true));
            refused(state, "mark(false)", desk -> desk.mark(false));
            refused(state, "mark(true)", desk -> desk.mark(true));
        }
        refused("ended", "join(false) of one", desk -> desk.join(false));
        refused("ended", "join(true) of one", desk -> desk.join(true));
        for (int kind = 0; kind <= 4; kind++) {
            int of = kind;
            refused("new", "reduce(" + kind + ", 9)", desk -> desk.reduce(of, 9), -2);
            refused("off", "reduce(" + kind + ", 9)", desk -> desk.reduce(of, 9), -2);
            refused("emptied", "reduce(" + kind + ", 9)", desk -> desk.reduce(of, 9), -2);
        }
        for (int kind = 2; kind <= 4; kind++) {
            int of = kind;
            refused("no parse", "reduce(" + kind + ", 9)", desk -> desk.reduce(of, 9), -3);
            states.put("no grammar", () -> Hand.desk("ab", "ha1"));
            refused("no grammar", "reduce(" + kind + ", 9)", desk -> desk.reduce(of, 9), -3);
            states.put("61 nodes", () -> Hand.desk("a".repeat(29), "ha1", "A=B*CC;B=a?;C=;"));
            refused("61 nodes", "reduce(" + kind + ", 9)", desk -> desk.reduce(of, 9), -3);
        }
        refused("new", "nodes()", ShrinkDesk::nodes, -1);
        refused("off", "nodes()", ShrinkDesk::nodes, -1);
        refused("new", "node(0)", desk -> desk.node(0), -1);
        refused("off", "depth(0)", desk -> desk.depth(0), -1);
        refused("no parse", "node(0)", desk -> desk.node(0), -1);
        refused("used", "node(6)", desk -> desk.node(6), -1);
        refused("used", "depth(6)", desk -> desk.depth(6), -1);
    }

    /** Calls that only tell something change nothing either. */
    private void asks() {
        for (String state : states.keySet()) {
            unchanged(state, "calls that only tell", desk -> {
                desk.outcome();
                desk.nodes();
                for (int i = -1; i <= 5; i++) {
                    desk.node(i);
                    desk.depth(i);
                    desk.at(i);
                    desk.count(i);
                }
                desk.length();
            });
        }
    }

    /** read() that is refused takes the grammar and what is typed for one, and nothing else. */
    private void readAlone() {
        for (String state : states.keySet()) {
            if (state.equals("full")) {
                continue;
            }
            ShrinkDesk desk = states.get(state).get();
            due.is("read() of \"" + state + "\"", desk.read(), -1);
            due.is("nodes() then", desk.nodes(), -1);
            due.is("node(0) then", desk.node(0), -1);
            due.is("depth(0) then", desk.depth(0), -1);
            due.is("room for a grammar then", roomForGrammar(desk), "60 -1");
            for (String look : new String[] {"text", "counts", "outcome", "room for the text", "outcomes", "terms", "depths",
                "room for terms", "is remembering on"}) {
                ShrinkDesk read = states.get(state).get();
                read.read();
                String want = looks.get(look).apply(states.get(state).get());
                due.is(look + " of \"" + state + "\" after read()", looks.get(look).apply(read), want);
            }
        }
    }
}
