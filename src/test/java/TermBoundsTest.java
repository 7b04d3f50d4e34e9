/** What "Terms" and promises 2, 6 to 11 and 13 say of a text, of terms and of marks, at each boundary. */
public final class TermBoundsTest {
    /** Each kind of a term that is made of no other. */
    private static final String[] LEAVES = {"ha1", "bab", "nab", "l3", "e"};
    private static final String NOTS = ";!;!;!;!;!";

    private final Due due = new Due("TermBoundsTest");

    public static void main(String[] args) {
        TermBoundsTest test = new TermBoundsTest();
        test.everyCharacter();
        test.upTo32();
        test.timesOrMore();
        test.before();
        test.rightBefore();
        test.longOrLonger();
        test.even();
        test.notAndOr();
        test.noMarkAtFirst();
        test.outcomes();
        test.depthOfOthers();
        test.depthOfNot();
        test.depthOfJoins();
        test.sixTerms();
        test.numbers();
        test.places();
        test.noneOnTheStack();
        test.uppermost();
        test.due.end();
    }

    private void holds(String term, String text, boolean want) {
        due.is("WRONG " + term + " of \"" + text + "\"", Hand.desk(text, term).outcome(), want ? 1 : 0);
        ShrinkDesk unclear = Hand.desk(text, "l0;!");
        Hand.mark(unclear, term, true);
        due.is("UNCLEAR " + term + " of \"" + text + "\"", unclear.outcome(), want ? 2 : 0);
    }

    /** "small letters, digits, space, comma, minus and round brackets" */
    private void everyCharacter() {
        int taken = 0;
        for (int c = 0; c < 65536; c++) {
            boolean isText = Hand.TEXT_SIGNS.indexOf((char) c) >= 0;
            ShrinkDesk desk = new ShrinkDesk();
            boolean typed = desk.type((char) c);
            boolean has = desk.has((char) c, 1);
            boolean first = desk.pair((char) c, 'a', false);
            boolean second = desk.pair('a', (char) c, true);
            taken += typed ? 1 : 0;
            if (typed != isText || has != isText || first != isText || second != isText) {
                due.is("character " + c, typed + " " + has + " " + first + " " + second, "all " + isText);
            }
        }
        due.is("characters of a text", taken, 41);
    }

    /** "A TEXT has up to 32 characters" */
    private void upTo32() {
        ShrinkDesk desk = new ShrinkDesk();
        due.is("length() of none", desk.length(), 0);
        for (int i = 1; i <= 34; i++) {
            due.is("type as number " + i, desk.type(i <= 32 ? 'a' : 'b'), i <= 32);
            due.is("length() after " + i, desk.length(), Math.min(i, 32));
        }
        due.is("text", Hand.text(desk), "a".repeat(32));
        desk.clear();
        due.is("length() after clear()", desk.length(), 0);
        due.is("type after clear()", desk.type('b'), true);
        due.is("text after clear()", Hand.text(desk), "b");
    }

    /** "HAS c, k (the character c stands in the text k times or more)" */
    private void timesOrMore() {
        for (int k = 1; k <= 9; k++) {
            for (int times = 0; times <= 11; times++) {
                holds("hc" + k, "c".repeat(times), times >= k);
                holds("hc" + k, "xc".repeat(times) + "y", times >= k);
            }
            holds("hc" + k, "c".repeat(32), true);
        }
        holds("hc1", "a".repeat(31) + "c", true);
        holds("hc1", "c" + "a".repeat(31), true);
        holds("hc2", "c" + "a".repeat(30) + "c", true);
        holds("hc2", "c" + "a".repeat(31), false);
        holds("h 1", "ab", false);
        holds("h 1", "a b", true);
    }

    /** "BEFORE c, d (some c stands before some d, not necessarily side by side)" */
    private void before() {
        holds("bcd", "", false);
        holds("bcd", "c", false);
        holds("bcd", "d", false);
        holds("bcd", "cd", true);
        holds("bcd", "dc", false);
        holds("bcd", "dcd", true);
        holds("bcd", "cdc", true);
        holds("bcd", "dac", false);
        holds("bcd", "c" + "a".repeat(30) + "d", true);
        holds("bcd", "d" + "a".repeat(30) + "c", false);
        holds("bcd", "d".repeat(31) + "c", false);
        holds("bcd", "d".repeat(30) + "cd", true);
        holds("bcd", "c" + "a".repeat(31), false);
        holds("bcc", "c", false);
        holds("bcc", "acb", false);
        holds("bcc", "cc", true);
        holds("bcc", "c" + "a".repeat(30) + "c", true);
    }

    /** "NEXT c, d (some c stands right before some d)" */
    private void rightBefore() {
        holds("ncd", "", false);
        holds("ncd", "c", false);
        holds("ncd", "d", false);
        holds("ncd", "cd", true);
        holds("ncd", "dc", false);
        holds("ncd", "cad", false);
        holds("ncd", "cadcd", true);
        holds("ncd", "cdcad", true);
        holds("ncd", "ccd", true);
        holds("ncd", "c d", false);
        holds("ncd", "cd" + "a".repeat(30), true);
        holds("ncd", "a".repeat(30) + "cd", true);
        holds("ncd", "d" + "a".repeat(30) + "c", false);
        holds("ncd", "c" + "a".repeat(30) + "d", false);
        holds("ncc", "c", false);
        holds("ncc", "cac", false);
        holds("ncc", "cc", true);
    }

    /** "LONG n (the text has n characters or more)" */
    private void longOrLonger() {
        for (int n = 0; n <= 32; n++) {
            for (int length = 0; length <= 32; length++) {
                due.is("LONG " + n + " of " + length, Hand.desk("a".repeat(length), "l" + n).outcome(), length >= n ? 1 : 0);
            }
        }
    }

    /** "EVEN (an even number)" */
    private void even() {
        for (int length = 0; length <= 32; length++) {
            holds("e", "a".repeat(length), length % 2 == 0);
        }
    }

    /** "NOT x; AND x, y; OR x, y" */
    private void notAndOr() {
        for (int i = 0; i < 4; i++) {
            boolean a = i % 2 == 1;
            boolean b = i >= 2;
            String text = (a ? "a" : "-") + (b ? "b" : "-");
            holds("ha1;!", text, !a);
            holds("ha1;hb1;&", text, a && b);
            holds("hb1;ha1;&", text, a && b);
            holds("ha1;hb1;|", text, a || b);
            holds("hb1;ha1;|", text, a || b);
        }
    }

    /** "There are two MARKS, WRONG and UNCLEAR, each a term or none (none at first)." */
    private void noMarkAtFirst() {
        for (String text : new String[] {"", "a", "ab", "a".repeat(32)}) {
            ShrinkDesk desk = new ShrinkDesk();
            Hand.type(desk, text);
            due.is("outcome() of \"" + text + "\" without marks", desk.outcome(), 0);
            Hand.put(desk, "l0");
            due.is("outcome() with a term that is no mark", desk.outcome(), 0);
            desk.mark(true);
            due.is("outcome() with UNCLEAR alone", desk.outcome(), 2);
            Hand.mark(desk, "l0", false);
            due.is("outcome() with both", desk.outcome(), 1);
        }
    }

    /** "1 if WRONG is a term that holds of it; otherwise 2 if UNCLEAR is one that holds of it; otherwise 0" */
    private void outcomes() {
        ShrinkDesk desk = new ShrinkDesk();
        Hand.mark(desk, "ha1", false);
        Hand.mark(desk, "hb1", true);
        String[] texts = {"", "a", "b", "ab", "c"};
        int[] wanted = {0, 1, 2, 1, 0};
        for (int i = 0; i < texts.length; i++) {
            Hand.retype(desk, texts[i]);
            due.is("outcome() of \"" + texts[i] + "\"", desk.outcome(), wanted[i]);
        }
        Hand.mark(desk, "hc1", false);
        due.is("outcome() of c by a new WRONG", desk.outcome(), 1);
        Hand.retype(desk, "ab");
        due.is("outcome() of ab by a new WRONG", desk.outcome(), 2);
        Hand.mark(desk, "hd1", true);
        due.is("outcome() of ab by a new UNCLEAR", desk.outcome(), 0);
    }

    /** "of the others 1": each bears five NOT, and no sixth. */
    private void depthOfOthers() {
        for (String leaf : LEAVES) {
            ShrinkDesk desk = new ShrinkDesk();
            due.is(leaf + " and five NOT", Hand.put(desk, leaf + NOTS), true);
            due.is(leaf + " and a sixth NOT", desk.not(), false);
            due.is("mark of it", desk.mark(false), true);
            due.is("mark of another one", desk.mark(false), false);
        }
    }

    /** "false when there is none, or the depth would be more than 6": what is refused stays as it was. */
    private void depthOfNot() {
        holds("ha1" + NOTS, "a", false);
        holds("ha1" + NOTS, "b", true);
        ShrinkDesk desk = Hand.desk("b", "ha1");
        Hand.put(desk, "ha1" + NOTS);
        due.is("a sixth NOT", desk.not(), false);
        due.is("a sixth NOT again", desk.not(), false);
        desk.mark(false);
        due.is("outcome() by five NOT", desk.outcome(), 1);
    }

    /** "1 more than that of the deepest term in them": for all depths of two terms. */
    private void depthOfJoins() {
        for (int x = 1; x <= 6; x++) {
            for (int y = 1; y <= 6; y++) {
                for (boolean either : new boolean[] {false, true}) {
                    int deepest = Math.max(x, y);
                    String call = "join(" + either + ") of depths " + x + " and " + y;
                    ShrinkDesk desk = new ShrinkDesk();
                    Hand.put(desk, "ha1" + NOTS.substring(0, 2 * x - 2));
                    Hand.put(desk, "ha1" + NOTS.substring(0, 2 * y - 2));
                    due.is(call, desk.join(either), deepest < 6);
                    int nots = 0;
                    while (desk.not()) {
                        nots++;
                    }
                    due.is(call + ": NOT behind it", nots, deepest < 6 ? 5 - deepest : 6 - y);
                    due.is(call + ": one term", desk.mark(false), true);
                    due.is(call + ": two terms", desk.mark(false), deepest == 6);
                }
            }
        }
    }

    /** "or six terms are on the stack" */
    private void sixTerms() {
        for (String leaf : LEAVES) {
            ShrinkDesk desk = new ShrinkDesk();
            for (int i = 1; i <= 5; i++) {
                due.is("ha1 as number " + i, Hand.put(desk, "ha1"), true);
            }
            due.is(leaf + " as number 6", Hand.put(desk, leaf), true);
            for (String other : LEAVES) {
                due.is(other + " as number 7", Hand.put(desk, other), false);
            }
            due.is("not() of the sixth", desk.not(), true);
            due.is(leaf + " as number 7 after not()", Hand.put(desk, leaf), false);
            due.is("join of the sixth and the fifth", desk.join(true), true);
            due.is(leaf + " as number 6 after join", Hand.put(desk, leaf), true);
            due.is(leaf + " as number 7 after join", Hand.put(desk, leaf), false);
            due.is("mark of the sixth", desk.mark(true), true);
            due.is(leaf + " as number 6 after mark", Hand.put(desk, leaf), true);
            due.is(leaf + " as number 7 after mark", Hand.put(desk, leaf), false);
            for (int i = 0; i < 7; i++) {
                due.is("mark of number " + (6 - i), desk.mark(true), i < 6);
            }
        }
    }

    /** "k is not 1 .. 9"; "n is not -1 .. 32" */
    private void numbers() {
        for (int n = -40; n <= 80; n++) {
            due.is("has(a, " + n + ")", new ShrinkDesk().has('a', n), n >= 1 && n <= 9);
            due.is("size(" + n + ")", new ShrinkDesk().size(n), n >= -1 && n <= 32);
        }
        for (int n : new int[] {Integer.MIN_VALUE, -257, -256, 256, 257, 65537, Integer.MAX_VALUE}) {
            due.is("has(a, " + n + ")", new ShrinkDesk().has('a', n), false);
            due.is("size(" + n + ")", new ShrinkDesk().size(n), false);
        }
    }

    /** "0 when there is none" */
    private void places() {
        ShrinkDesk desk = new ShrinkDesk();
        for (int length = 0; length <= 32; length++) {
            due.is("at(-1) of " + length, desk.at(-1), 0);
            due.is("at(" + (length - 1) + ") of " + length, desk.at(length - 1), length == 0 ? 0 : 'a' + (length - 1) % 26);
            due.is("at(" + length + ") of " + length, desk.at(length), 0);
            desk.type((char) ('a' + length % 26));
        }
        desk.clear();
        due.is("at(0) after clear()", desk.at(0), 0);
        due.is("at(31) after clear()", desk.at(31), 0);
        for (int i : new int[] {Integer.MIN_VALUE, -32, 32, 33, 64, Integer.MAX_VALUE}) {
            due.is("at(" + i + ") of 32", Hand.desk("a".repeat(32), "l0").at(i), 0);
        }
    }

    /** "false when there is none"; "false when there are fewer than two" */
    private void noneOnTheStack() {
        ShrinkDesk desk = Hand.desk("a", "ha1");
        for (int round = 0; round < 2; round++) {
            due.is("not() of none", desk.not(), false);
            due.is("join(false) of none", desk.join(false), false);
            due.is("join(true) of none", desk.join(true), false);
            due.is("mark(false) of none", desk.mark(false), false);
            due.is("mark(true) of none", desk.mark(true), false);
            due.is("outcome(): the mark stays", desk.outcome(), 1);
            Hand.put(desk, "hb1");
            due.is("join(false) of one", desk.join(false), false);
            due.is("join(true) of one", desk.join(true), false);
            due.is("not() of one", desk.not(), true);
            due.is("mark(true) of one", desk.mark(true), true);
        }
        Hand.put(desk, "hb1;hc1");
        due.is("join(false) of two", desk.join(false), true);
        due.is("join(false) of what is one now", desk.join(false), false);
        due.is("mark of one", desk.mark(false), true);
        due.is("mark of none", desk.mark(false), false);
    }

    /** "the uppermost term"; "the two uppermost terms": what is below them stays. */
    private void uppermost() {
        ShrinkDesk desk = new ShrinkDesk();
        Hand.put(desk, "ha1;hb1;hc1;hd1");
        desk.not();
        desk.join(true);
        Hand.retype(desk, "d");
        desk.mark(false);
        due.is("hc1 or not hd1, of d", desk.outcome(), 0);
        Hand.retype(desk, "cd");
        due.is("hc1 or not hd1, of cd", desk.outcome(), 1);
        desk.mark(false);
        due.is("hb1, of cd", desk.outcome(), 0);
        Hand.retype(desk, "b");
        due.is("hb1, of b", desk.outcome(), 1);
        desk.mark(false);
        due.is("ha1, of b", desk.outcome(), 0);
        Hand.retype(desk, "a");
        due.is("ha1, of a", desk.outcome(), 1);
        due.is("mark of none", desk.mark(false), false);
    }
}
