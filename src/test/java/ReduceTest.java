/** Promise 17 reduce and, of 20, the reductions and whether the latest ended for want of probes. */
public final class ReduceTest {
    private static final String BRACKETS = "A=B*;B=a/(C);C=a*;";

    public static void main(String[] args) {
        Due due = new Due("ReduceTest");
        refused(due);
        refusedChangesNothing(due);
        probes(due);
        moreThan400(due);
        characters(due);
        words(due);
        levels(due);
        levelsTwice(due);
        againAndAgain(due);
        moves(due);
        ends(due);
        due.end();
    }

    private static void refused(Due due) {
        int[] kinds = {-1, 5, 6, Integer.MIN_VALUE, Integer.MAX_VALUE};
        int[] counts = {-1, 401, Integer.MIN_VALUE, Integer.MAX_VALUE};
        for (int kind : kinds) {
            due.is("reduce(" + kind + ", 9)", Hand.desk("a", "ha1").reduce(kind, 9), -1);
            due.is("reduce(" + kind + ", 9) of b", Hand.desk("b", "ha1").reduce(kind, 9), -1);
        }
        for (int probes : counts) {
            for (int kind = 0; kind < 5; kind++) {
                String call = "reduce(" + kind + ", " + probes + ")";
                due.is(call, Hand.desk("a", "ha1", "A=a;").reduce(kind, probes), -1);
                due.is(call + " of b", Hand.desk("b", "ha1").reduce(kind, probes), -1);
            }
        }
        for (int kind = 0; kind < 5; kind++) {
            String call = "reduce(" + kind + ", 9)";
            due.is(call + " without marks", new ShrinkDesk().reduce(kind, 9), -2);
            due.is(call + " of b", Hand.desk("b", "ha1").reduce(kind, 9), -2);
            ShrinkDesk unclear = Hand.desk("b", "ha1", "A=b;");
            Hand.mark(unclear, "hb1", true);
            due.is(call + " of b with outcome 2", unclear.reduce(kind, 9), -2);
            boolean tree = kind >= 2;
            due.is(call + " without a grammar", Hand.desk("a", "l1").reduce(kind, 0), tree ? -3 : 1);
            due.is(call + " of no parse", Hand.desk("a", "l1", "A=b;").reduce(kind, 0), tree ? -3 : 1);
            ShrinkDesk many = Hand.desk("a".repeat(30), "l30", "A=B*;B=a?;");
            due.is(call + " of 61 nodes", many.reduce(kind, 400), tree ? -3 : 30);
            ShrinkDesk fits = Hand.desk("a".repeat(29), "l29", "A=B*C;B=a?;C=;");
            due.is(call + " of 60 nodes", fits.reduce(kind, 400), 29);
        }
    }

    private static void refusedChangesNothing(Due due) {
        ShrinkDesk desk = Hand.desk("aa", "ha1");
        desk.reduce(0, 1);
        due.is("counts", Hand.counts(desk), "1 0 1 1 1");
        Hand.retype(desk, "ab");
        due.is("reduce(5, 9)", desk.reduce(5, 9), -1);
        due.is("reduce(0, 401)", desk.reduce(0, 401), -1);
        due.is("reduce(4, 9)", desk.reduce(4, 9), -3);
        due.is("text", Hand.text(desk), "ab");
        desk.clear();
        due.is("reduce(0, 9) of the empty text", desk.reduce(0, 9), -2);
        due.is("counts after refused ones", Hand.counts(desk), "1 0 1 1 1");
        Hand.type(desk, "a");
        due.is("reduce(0, 9)", desk.reduce(0, 9), 1);
        due.is("counts after that", Hand.counts(desk), "2 0 2 0 2");
        due.is("reduce(-1, 9)", desk.reduce(-1, 9), -1);
        due.is("counts after a refused one again", Hand.counts(desk), "2 0 2 0 2");
    }

    /** Reducing aaaa asks for aa, a and the empty text. */
    private static void probes(Due due) {
        due.is("reduce(0, 0)", reduced(Hand.desk("aaaa", "ha1"), 0, 0), "aaaa: 0 0 1 1 0");
        due.is("reduce(0, 1)", reduced(Hand.desk("aaaa", "ha1"), 0, 1), "aa: 1 0 1 1 1");
        due.is("reduce(0, 2)", reduced(Hand.desk("aaaa", "ha1"), 0, 2), "a: 2 0 1 1 2");
        due.is("reduce(0, 3)", reduced(Hand.desk("aaaa", "ha1"), 0, 3), "a: 3 0 1 0 3");
        due.is("reduce(0, 400)", reduced(Hand.desk("aaaa", "ha1"), 0, 400), "a: 3 0 1 0 3");
        ShrinkDesk desk = Hand.desk("aaaa", "ha1");
        desk.reduce(0, 2);
        Hand.retype(desk, "aaaa");
        due.is("hits need no probes", reduced(desk, 0, 0), "a: 2 2 2 1 2");
        Hand.retype(desk, "aaaa");
        due.is("one more probe", reduced(desk, 0, 1), "a: 3 4 3 0 3");
        Hand.retype(desk, "aaaa");
        due.is("nothing but hits", reduced(desk, 0, 0), "a: 3 7 4 0 3");
        due.is("nothing to ask for", reduced(Hand.desk("", "l0"), 0, 0), ": 0 0 1 0 0");
        due.is("at the end of many", reduced(Hand.desk("abcd", "l4"), 0, 9), "abcd: 9 0 1 1 9");
        due.is("just enough", reduced(Hand.desk("abcd", "l4"), 0, 10), "abcd: 10 0 1 0 10");
        due.is("all 400", reduced(forgetful("a".repeat(32), "l32"), 0, 400), "a".repeat(32) + ": 122 0 1 0 0");
    }

    /** Each round asks in vain for the text without all b, and twice without each; then without an a. */
    private static void moreThan400(Due due) {
        ShrinkDesk desk = forgetful("b".repeat(9) + "a".repeat(23), "hb9");
        Hand.read(desk, "A=B*;B=a/D+;D=E?;E=b;");
        due.is("nodes()", desk.nodes(), 43);
        due.is("400 and no more", reduced(desk, 4, 400), "b".repeat(9) + "aaa: 400 0 1 1 0");
        due.is("and on", reduced(desk, 4, 400), "b".repeat(9) + ": 479 0 2 0 0");
    }

    private static void characters(Due due) {
        due.is("empty", reduced(Hand.desk("", "l0"), 0, 9), ": 0 0 1 0 0");
        due.is("one, and it may go", reduced(Hand.desk("a", "l0"), 0, 9), ": 1 0 1 0 1");
        due.is("one, and it stays", reduced(Hand.desk("a", "l1"), 0, 9), "a: 1 0 1 0 1");
        due.is("two", reduced(Hand.desk("ab", "hb1"), 0, 9), "b: 3 0 1 0 3");
        due.is("two stay: no part is left out", reduced(forgetful("ab", "l2"), 0, 9), "ab: 2 0 1 0 0");
        due.is("three", reduced(forgetful("abc", "ha1;hc1;&"), 0, 99), "ac: 9 0 1 0 0");
        due.is("four", reduced(forgetful("abcd", "ha1;hd1;&"), 0, 99), "ad: 15 0 1 0 0");
        due.is("four with hits", reduced(Hand.desk("abcd", "ha1;hd1;&"), 0, 99), "ad: 9 6 1 0 9");
        due.is("five stay", reduced(Hand.desk("abcde", "l5"), 0, 99), "abcde: 14 6 1 0 14");
        due.is("five stay, all probes", reduced(forgetful("abcde", "l5"), 0, 99), "abcde: 20 0 1 0 0");
        due.is("all but the empty text", reduced(Hand.desk("abcdefgh", "l1"), 0, 99), "a: 4 0 1 0 4");
        due.is("all go at last", reduced(Hand.desk("abcdefgh", "l0"), 0, 99), ": 4 0 1 0 4");
        due.is("a part of two goes", reduced(forgetful("abcdefgh", "ha1;hd1;&;hg1;&"), 0, 99), "adg: 44 0 1 0 0");
        ShrinkDesk again = Hand.desk("bbba", "ha1");
        due.is("once", reduced(again, 0, 99), "a: 5 0 1 0 5");
        Hand.retype(again, "abbb");
        due.is("and again", reduced(again, 0, 99), "a: 6 2 2 0 6");
        ShrinkDesk desk = Hand.desk("ab", "hb1");
        Hand.mark(desk, "ha1", true);
        due.is("outcome 2 is none to take", reduced(desk, 0, 99), "b: 3 0 1 0 3");
    }

    private static void words(Due due) {
        due.is("three words", reduced(Hand.desk("ab  c d", "hc1"), 1, 99), "c : 4 0 1 0 4");
        due.is("spaces in front", reduced(Hand.desk("  a", "ha1"), 1, 99), "a: 3 0 1 0 3");
        due.is("spaces in front stay", reduced(Hand.desk("  a", "h 1"), 1, 99), "  : 2 0 1 0 2");
        due.is("nothing but spaces", reduced(Hand.desk("   ", "h 1"), 1, 99), "   : 1 0 1 0 1");
        due.is("a single word", reduced(Hand.desk("abcd", "ha1"), 1, 99), "abcd: 1 0 1 0 1");
        due.is("spaces behind", reduced(Hand.desk("ab   ", "hb1"), 1, 99), "ab   : 1 0 1 0 1");
        due.is("no other sign parts words", reduced(Hand.desk("a,b-(c)", "hb1"), 1, 99), "a,b-(c): 1 0 1 0 1");
        due.is("empty", reduced(Hand.desk("", "l0"), 1, 99), ": 0 0 1 0 0");
        due.is("first and last", reduced(forgetful("a b c d", "ha1;hd1;&"), 1, 99), "a d: 15 0 1 0 0");
        due.is("signs would be less", reduced(Hand.desk("xa by", "ha1;hb1;&"), 1, 99), "xa by: 2 0 1 0 2");
    }

    private static void levels(Due due) {
        due.is("(aa)a", reduced(Hand.desk("(aa)a", "h(1", BRACKETS), 2, 99), "(): 3 0 1 0 3");
        due.is("nothing below the start", reduced(Hand.desk("ab", "ha1", "A=ab;"), 2, 99), "ab: 0 0 1 0 0");
        due.is("no characters at all", reduced(Hand.desk("a", "ha1", "A=Ba;B=b?;"), 2, 99), "a: 1 0 1 0 1");
        due.is("all goes", reduced(Hand.desk("aab", "l0", "A=B*;B=a*b;"), 2, 99), ": 1 0 1 0 1");
        due.is("the second level", reduced(Hand.desk("(aa)", "ha1", "A=(B);B=C+;C=a;"), 2, 99), "(a): 2 1 1 0 2");
        due.is("out of the grammar", reduced(Hand.desk("-ab", "h-1", "A=-B;B=aC;C=b;"), 2, 99), "-: 1 0 1 0 1");
        due.is("a level that stays", reduced(Hand.desk("-ab", "ha1", "A=-B;B=aC;C=b;"), 2, 99), "-a: 2 0 1 0 2");
        ShrinkDesk twice = Hand.desk("a(a)(aa)", "h(2", BRACKETS);
        due.is("two units stay", reduced(twice, 2, 99), "()(): 6 0 1 0 6");
    }

    /** What was kept in one reduction is not kept in the next one for that. */
    private static void levelsTwice(Due due) {
        ShrinkDesk desk = Hand.desk("a(a)", "l4", BRACKETS);
        due.is("all stays", reduced(desk, 2, 99), "a(a): 3 1 1 0 3");
        Hand.mark(desk, "ha1", false);
        due.is("the brackets go", reduced(desk, 2, 99), "a: 5 1 2 0 2");
    }

    /** Kind 3 goes on where kind 2 rests; it stops when the text didn't get shorter, or doesn't parse. */
    private static void againAndAgain(Due due) {
        due.is("(aa)a", reduced(Hand.desk("(aa)a", "h(1", BRACKETS), 3, 99), "(): 3 2 1 0 3");
        String grammar = "A=B*;B=aC?/c;C=b;";
        String wrong = "ha1;hc1;hb1;!;|;&";
        due.is("cab once", reduced(Hand.desk("cab", wrong, grammar), 2, 99), "ca: 3 0 1 0 3");
        due.is("cab again", reduced(Hand.desk("cab", wrong, grammar), 3, 99), "a: 5 2 1 0 5");
        due.is("no shorter", reduced(Hand.desk("ab", "l2", grammar), 3, 99), "ab: 2 0 1 0 2");
        due.is("no parse any more", reduced(Hand.desk("-ab", "ha1", "A=-B;B=aC;C=b;"), 3, 99), "-a: 2 0 1 0 2");
    }

    private static void moves(Due due) {
        String nested = "A=(A)/a;";
        due.is("by what is below", reduced(Hand.desk("((a))", "ha1", nested), 4, 99), "a: 2 0 1 0 2");
        due.is("none taken", reduced(Hand.desk("((a))", "l5", nested), 4, 99), "((a)): 2 1 1 0 2");
        due.is("no parse, not asked", reduced(Hand.desk("ababc", "ha1", "A=B?C;B=ab;C=abc;"), 4, 99), "ababc: 0 0 1 0 0");
        due.is("lesser number first", reduced(Hand.desk("ab", "l1", "A=B*;B=a/b;"), 4, 99), "b: 2 0 1 0 2");
        due.is("then the next", reduced(Hand.desk("ab", "ha1", "A=B*;B=a/b;"), 4, 99), "a: 3 0 1 0 3");
        due.is("more characters first", reduced(Hand.desk("baa", "l1", "A=B*;B=a+/b;"), 4, 99), "b: 2 0 1 0 2");
        due.is("one of + is not loose", reduced(Hand.desk("a", "l0", "A=a+/;"), 4, 99), "a: 0 0 1 0 0");
        due.is("two of + are", reduced(Hand.desk("aa", "l0", "A=a+/;"), 4, 99), "a: 1 0 1 0 1");
        due.is("the start is not loose", reduced(Hand.desk("a", "l0", "A=a/;"), 4, 99), "a: 0 0 1 0 0");
        due.is("a node of another rule", reduced(Hand.desk("(a)", "l1", "A=(B)/a;B=a;"), 4, 99), "(a): 0 0 1 0 0");
        due.is("one deeper of the rule", reduced(Hand.desk("(-a)", "l1", "A=(B)/a;B=-A;"), 4, 99), "a: 1 0 1 0 1");
        due.is("as many characters", reduced(Hand.desk("a", "l1", "A=aB/a;B=A?;"), 4, 99), "a: 0 0 1 0 0");
        due.is("characters of no rule", reduced(Hand.desk("aa", "l2", "A=a?a?;"), 4, 99), "aa: 1 1 1 0 1");
        due.is("loose without characters", reduced(Hand.desk("a", "l0", "A=B?a;B=b?;"), 4, 99), "a: 0 0 1 0 0");
        due.is("by none", reduced(Hand.desk("(a)", "h(1", "A=(A)/a/;"), 4, 99), "(a): 1 0 1 0 1");
        due.is("by what has no characters", reduced(Hand.desk("(())", "l0", "A=(A)/;"), 4, 99), ": 2 0 1 0 2");
    }

    private static void ends(Due due) {
        for (int kind = 0; kind < 5; kind++) {
            ShrinkDesk desk = Hand.desk("(aa)a", "h(1", BRACKETS);
            String call = "reduce(" + kind + ", 0)";
            due.is(call, reduced(desk, kind, 0), "(aa)a: 0 0 1 1 0");
        }
        due.is("kind 2 by 1", reduced(Hand.desk("(aa)a", "h(1", BRACKETS), 2, 1), "(aa): 1 0 1 1 1");
        due.is("kind 2 by 2", reduced(Hand.desk("(aa)a", "h(1", BRACKETS), 2, 2), "(aa): 2 0 1 1 2");
        due.is("kind 2 by 3", reduced(Hand.desk("(aa)a", "h(1", BRACKETS), 2, 3), "(): 3 0 1 0 3");
        due.is("kind 3 by 3", reduced(Hand.desk("(aa)a", "h(1", BRACKETS), 3, 3), "(): 3 2 1 0 3");
        String wrong = "ha1;hc1;hb1;!;|;&";
        due.is("kind 3 by 4", reduced(Hand.desk("cab", wrong, "A=B*;B=aC?/c;C=b;"), 3, 4), "a: 4 1 1 1 4");
        due.is("kind 3 by 2", reduced(Hand.desk("(aa)a", "h(1", BRACKETS), 3, 2), "(aa): 2 0 1 1 2");
        due.is("kind 4 by 1", reduced(Hand.desk("((a))", "ha1", "A=(A)/a;"), 4, 1), "(a): 1 0 1 1 1");
        due.is("kind 4 by 2", reduced(Hand.desk("((a))", "ha1", "A=(A)/a;"), 4, 2), "a: 2 0 1 0 2");
        due.is("kind 1 by 1", reduced(Hand.desk("a b", "hb1", BRACKETS), 1, 1), "a b: 1 0 1 1 1");
    }

    private static ShrinkDesk forgetful(String text, String wrong) {
        ShrinkDesk desk = Hand.desk(text, wrong);
        desk.remember(false);
        return desk;
    }

    /** The text and the counts after a reduction that was not refused. */
    private static String reduced(ShrinkDesk desk, int kind, int probes) {
        int answer = desk.reduce(kind, probes);
        String told = answer == desk.length() ? "" : "answered " + answer + " for ";
        return told + Hand.text(desk) + ": " + Hand.counts(desk);
    }
}
