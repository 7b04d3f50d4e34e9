/** Promises 6 has, 7 pair, 8 size, 9 not, 10 join, 11 mark and 13 outcome. */
public final class TermsTest {
    public static void main(String[] args) {
        Due due = new Due("TermsTest");
        arguments(due);
        sixTerms(due);
        holding(due);
        combined(due);
        depths(due);
        order(due);
        marks(due);
        due.end();
    }

    private static void arguments(Due due) {
        for (int c = 0; c <= 300; c++) {
            boolean isText = Hand.TEXT_SIGNS.indexOf(c) >= 0;
            due.is("has(" + c + ", 1)", new ShrinkDesk().has((char) c, 1), isText);
            due.is("pair(" + c + ", a, true)", new ShrinkDesk().pair((char) c, 'a', true), isText);
            due.is("pair(a, " + c + ", false)", new ShrinkDesk().pair('a', (char) c, false), isText);
        }
        int[] numbers = {Integer.MIN_VALUE, -2, -1, 0, 1, 2, 9, 10, 31, 32, 33, Integer.MAX_VALUE};
        for (int n : numbers) {
            due.is("has(a, " + n + ")", new ShrinkDesk().has('a', n), n >= 1 && n <= 9);
            due.is("size(" + n + ")", new ShrinkDesk().size(n), n >= -1 && n <= 32);
        }
        ShrinkDesk desk = new ShrinkDesk();
        desk.has('A', 1);
        desk.has('a', 0);
        desk.has('a', 10);
        desk.pair('a', '+', false);
        desk.size(33);
        due.is("mark: nothing refused is on the stack", desk.mark(false), false);
    }

    private static void sixTerms(Due due) {
        ShrinkDesk desk = new ShrinkDesk();
        due.is("six terms", Hand.put(desk, "ha1;bab;nab;l3;e;h 9"), true);
        due.is("has as seventh", desk.has('a', 1), false);
        due.is("pair as seventh, far", desk.pair('a', 'b', false), false);
        due.is("pair as seventh, near", desk.pair('a', 'b', true), false);
        due.is("size(3) as seventh", desk.size(3), false);
        due.is("size(-1) as seventh", desk.size(-1), false);
        due.is("not() with six", desk.not(), true);
        due.is("join with six", desk.join(false), true);
        due.is("has as sixth again", desk.has('a', 1), true);
        due.is("has as seventh again", desk.has('a', 1), false);
        due.is("mark with six", desk.mark(true), true);
        due.is("size as sixth again", desk.size(0), true);
        for (int i = 0; i < 6; i++) {
            due.is("mark " + i, desk.mark(false), true);
        }
        due.is("mark of none", desk.mark(false), false);
    }

    private static void holding(Due due) {
        holds(due, "ha1", "bab", true);
        holds(due, "ha1", "bbb", false);
        holds(due, "ha1", "", false);
        holds(due, "ha2", "bab", false);
        holds(due, "ha2", "aab", true);
        holds(due, "ha9", "a".repeat(8), false);
        holds(due, "ha9", "a".repeat(9), true);
        holds(due, "ha2", "a".repeat(32), true);
        holds(due, "h 2", "a b ", true);
        holds(due, "bab", "ab", true);
        holds(due, "bab", "acb", true);
        holds(due, "bab", "ba", false);
        holds(due, "bab", "bab", true);
        holds(due, "bab", "a", false);
        holds(due, "bab", "", false);
        holds(due, "baa", "a", false);
        holds(due, "baa", "aba", true);
        holds(due, "nab", "ab", true);
        holds(due, "nab", "acb", false);
        holds(due, "nab", "aab", true);
        holds(due, "nab", "ba", false);
        holds(due, "nab", "b", false);
        holds(due, "nab", "bbacbab", true);
        holds(due, "naa", "a", false);
        holds(due, "naa", "aba", false);
        holds(due, "naa", "baa", true);
        holds(due, "n()", "a()", true);
        holds(due, "l0", "", true);
        holds(due, "l1", "", false);
        holds(due, "l3", "ab", false);
        holds(due, "l3", "abc", true);
        holds(due, "l32", "a".repeat(31), false);
        holds(due, "l32", "a".repeat(32), true);
        holds(due, "e", "", true);
        holds(due, "e", "a", false);
        holds(due, "e", "ab", true);
        holds(due, "e", "a".repeat(31), false);
        holds(due, "e", "a".repeat(32), true);
    }

    private static void combined(Due due) {
        holds(due, "ha1;!", "a", false);
        holds(due, "ha1;!", "b", true);
        holds(due, "ha1;!;!", "a", true);
        String[] texts = {"cc", "ac", "cb", "ab"};
        for (String text : texts) {
            boolean a = text.contains("a");
            boolean b = text.contains("b");
            holds(due, "ha1;hb1;&", text, a && b);
            holds(due, "ha1;hb1;|", text, a || b);
            holds(due, "ha1;hb1;&;!", text, !(a && b));
            holds(due, "ha1;hb1;!;&", text, a && !b);
            holds(due, "ha1;!;hb1;|", text, !a || b);
            holds(due, "ha1;hb1;l3;&;|", text, a);
            holds(due, "ha1;hb1;&;l3;|", text, a && b);
            holds(due, "ha1;hb1;|;e;&", text, a || b);
        }
    }

    private static void depths(Due due) {
        ShrinkDesk desk = new ShrinkDesk();
        due.is("a term of depth 6", Hand.put(desk, "ha1;!;!;!;!;!"), true);
        due.is("not() to depth 7", desk.not(), false);
        Hand.put(desk, "hb1");
        due.is("join to depth 7, the deep one below", desk.join(false), false);
        due.is("join to depth 7 by or", desk.join(true), false);
        due.is("the upper one is still there", desk.mark(true), true);
        due.is("the deep one is still there", desk.mark(false), true);
        due.is("and no other", desk.mark(false), false);
        Hand.type(desk, "b");
        due.is("outcome() of b: five times NOT", desk.outcome(), 1);
        Hand.put(desk, "hb1;ha1;!;!;!;!;!");
        due.is("join to depth 7, the deep one uppermost", desk.join(false), false);
        due.is("not() with it uppermost", desk.not(), false);
        Hand.put(desk, "hc1;!;!;!;!;!");
        due.is("join of two deep ones", desk.join(true), false);

        ShrinkDesk other = new ShrinkDesk();
        due.is("depth 5 and depth 5", Hand.put(other, "ha1;!;!;!;!;hb1;!;!;!;!;&"), true);
        due.is("not() of depth 6", other.not(), false);
        due.is("mark of depth 6", other.mark(false), true);
        Hand.type(other, "ab");
        due.is("outcome() of ab", other.outcome(), 1);
        due.is("depth 5 and depth 1", Hand.put(other, "hc1;ha1;!;!;!;!;|"), true);
        due.is("not() of depth 6", other.not(), false);

        holds(due, "ha1;!;!;!;!;!", "a", false);
        holds(due, "ha1;!;!;!;!;!", "b", true);
        holds(due, "hz1;hz1;hz1;hz1;hz1;ha1;|;|;|;|;|", "a", true);
        holds(due, "hz1;hz1;hz1;hz1;hz1;ha1;|;|;|;|;|", "b", false);
        holds(due, "ha1;hz1;|;hz1;|;hz1;|;hz1;|;hz1;|", "a", true);
        holds(due, "l0;l0;l0;l0;l0;ha1;&;&;&;&;&", "a", true);
        holds(due, "l0;l0;l0;l0;l0;ha1;&;&;&;&;&", "b", false);
        holds(due, "ha1;l0;&;l0;&;l0;&;l0;&;l0;&", "a", true);

        ShrinkDesk full = new ShrinkDesk();
        due.is("32 leaves", Hand.put(full, leaves(5)), true);
        due.is("mark of 32 leaves", full.mark(false), true);
        Hand.type(full, "a");
        due.is("outcome() by 32 leaves", full.outcome(), 1);
        due.is("the stack is empty", full.mark(false), false);
    }

    private static String leaves(int joins) {
        return joins == 0 ? "ha1" : leaves(joins - 1) + ";" + leaves(joins - 1) + ";&";
    }

    /** The uppermost terms are worked on, and what is below them stays. */
    private static void order(Due due) {
        ShrinkDesk desk = new ShrinkDesk();
        Hand.put(desk, "ha1;hb1;hc1;!;|");
        Hand.type(desk, "c");
        desk.mark(false);
        due.is("hb1 or not hc1, of c", desk.outcome(), 0);
        Hand.retype(desk, "bc");
        due.is("hb1 or not hc1, of bc", desk.outcome(), 1);
        desk.mark(false);
        due.is("ha1, of bc", desk.outcome(), 0);
        Hand.retype(desk, "a");
        due.is("ha1, of a", desk.outcome(), 1);
        due.is("join of none", desk.join(true), false);
        Hand.put(desk, "hz1");
        due.is("join of one", desk.join(false), false);
        due.is("not of it", desk.not(), true);
        due.is("mark of it", desk.mark(false), true);
        due.is("not hz1, of a", desk.outcome(), 1);
    }

    private static void marks(Due due) {
        ShrinkDesk desk = new ShrinkDesk();
        Hand.type(desk, "ab");
        due.is("outcome() without marks", desk.outcome(), 0);
        Hand.mark(desk, "hb1", true);
        due.is("outcome() with UNCLEAR", desk.outcome(), 2);
        Hand.mark(desk, "ha1", false);
        due.is("outcome() with both", desk.outcome(), 1);
        Hand.retype(desk, "b");
        due.is("outcome() with both, of b", desk.outcome(), 2);
        Hand.retype(desk, "c");
        due.is("outcome() with both, of c", desk.outcome(), 0);
        Hand.mark(desk, "hc1", false);
        due.is("outcome() with a new WRONG", desk.outcome(), 1);
        Hand.retype(desk, "a");
        due.is("outcome(): the old WRONG is gone", desk.outcome(), 0);
        Hand.mark(desk, "ha1", true);
        due.is("outcome() with a new UNCLEAR", desk.outcome(), 2);
        due.is("mark of none", desk.mark(false), false);
        due.is("mark of none, unclear", desk.mark(true), false);
        due.is("outcome() after mark of none", desk.outcome(), 2);
        Hand.retype(desk, "ca");
        Hand.retype(desk, "c");
        due.is("outcome(): nothing of the longer text", desk.outcome(), 1);
        Hand.mark(desk, "ha1", false);
        due.is("outcome(): nothing of the longer text, has", desk.outcome(), 0);
        Hand.mark(desk, "nca", false);
        due.is("outcome(): nothing of the longer text, pair", desk.outcome(), 0);
        due.is("outcome() asks for nothing", Hand.counts(desk), "0 0 0 0 0");
    }

    private static void holds(Due due, String term, String text, boolean want) {
        ShrinkDesk desk = Hand.desk(text, term);
        due.is("outcome() of \"" + text + "\" with WRONG " + term, desk.outcome(), want ? 1 : 0);
        ShrinkDesk other = new ShrinkDesk();
        Hand.type(other, text);
        Hand.mark(other, term, true);
        due.is("outcome() of \"" + text + "\" with UNCLEAR " + term, other.outcome(), want ? 2 : 0);
    }
}
