/** "A rule MATCHES" and "THE TREE of a text", promises 14 to 16: each boundary that the sentences name. */
public final class TreeBoundsTest {
    private static final String MANY = "a".repeat(32);

    private final Due due = new Due("TreeBoundsTest");

    public static void main(String[] args) {
        TreeBoundsTest test = new TreeBoundsTest();
        test.atTheEnd();
        test.withoutCharacters();
        test.endsAtTheEnd();
        test.firstAlternative();
        test.nothingIsGoneBackOn();
        test.question();
        test.star();
        test.plus();
        test.theStart();
        test.whichItemsGiveNodes();
        test.loose();
        test.numbered();
        test.depths();
        test.begins();
        test.sixtyByCharacters();
        test.sixtyByNames();
        test.sixtyWithoutCharacters();
        test.moreThanSixtyElsewhere();
        test.deepest();
        test.none();
        test.ofTheTypedText();
        test.due.end();
    }

    /** The tree as Hand tells it; nothing is due when the text does not parse. */
    private void tree(String grammar, String text, String want) {
        ShrinkDesk desk = new ShrinkDesk();
        due.is("read() of " + grammar, Hand.read(desk, grammar) > 0, true);
        Hand.type(desk, text);
        due.is("tree of \"" + text + "\" by " + grammar, Hand.tree(desk), want);
    }

    private void nodes(String grammar, String text, int want) {
        ShrinkDesk desk = new ShrinkDesk();
        due.is("read() of " + grammar, Hand.read(desk, grammar) > 0, true);
        Hand.type(desk, text);
        due.is("nodes() of \"" + text + "\" by " + grammar, desk.nodes(), want);
        due.is("node(0)", desk.node(0) >= 0, want > 0);
        due.is("depth(0)", desk.depth(0), want > 0 ? 0 : -1);
        due.is("node(" + (want - 1) + ")", desk.node(want - 1) >= 0, want > 0);
        due.is("depth(" + (want - 1) + ")", desk.depth(want - 1) >= 0, want > 0);
        due.is("node(" + want + ")", desk.node(want), -1);
        due.is("depth(" + want + ")", desk.depth(want), -1);
    }

    /** "at a place of a text (from the first on, perhaps at its end)" */
    private void atTheEnd() {
        tree("A=aB;B=;", "a", "A[0:a]B[1:]");
        tree("A=aB;B=b?;", "a", "A[0:a]B[1:]");
        tree("A=aB;B=b/;", "a", "A[0:a]B[1:]");
        tree("A=aB;B=b;", "a", "");
        tree("A=ab;", "a", "");
        tree("A=aB?;B=b;", "a", "A[0:a]");
        tree("A=a?;", "", "A[0:]");
        tree("A=a;", "", "");
        tree("A=" + MANY + "B;B=;", MANY, "A[0:" + MANY + "]B[1:]");
        tree("A=" + MANY + "B;B=b;", MANY, "");
        tree("A=" + MANY + "b;", MANY, "");
    }

    private void withoutCharacters() {
        tree("A=Ba;B=;", "a", "A[0:a]B[1:]");
        tree("A=aBb;B=;", "ab", "A[0:ab]B[1:]");
        tree("A=BBaB;B=b*;", "a", "A[0:a]B[1:]B[1:]B[1:]");
        tree("A=B;B=C;C=D?;D=;", "", "A[0:]B[1:]C[2:]D'[3:]");
    }

    /** "the START matches at its first place and ends at its end" */
    private void endsAtTheEnd() {
        tree("A=ab;", "ab", "A[0:ab]");
        tree("A=ab;", "abb", "");
        tree("A=ab;", "a", "");
        tree("A=ab;", "aab", "");
        tree("A=;", "", "A[0:]");
        tree("A=;", "a", "");
        tree("A=a*;", MANY, "A[0:" + MANY + "]" + ".'[1:a]".repeat(32));
        tree("A=a*;", "a".repeat(31) + "b", "");
        tree("A=a*b;", "a".repeat(31) + "b", "A[0:" + "a".repeat(31) + "b]" + ".'[1:a]".repeat(31));
        tree("A=a*b;", MANY, "");
    }

    /** "as its first alternative does that matches there at all" */
    private void firstAlternative() {
        tree("A=B;B=ab/a?b?;", "ab", "A[0:ab]B[1:ab]");
        tree("A=B;B=a?b?/ab;", "ab", "A[0:ab]B[1:ab].'[2:a].'[2:b]");
        tree("A=B;B=ac/bc/c/a?;", "a", "A[0:a]B[1:a].'[2:a]");
        tree("A=B;B=/a;", "", "A[0:]B[1:]");
        tree("A=B;B=c/d;", "a", "");
        tree("A=a/ab/abc;", "a", "A[0:a]");
        tree("A=a/ab/abc;", "abc", "");
        tree("A=abc/ab/a;", "abc", "A[0:abc]");
        tree("A=abc/ab/a;", "ab", "A[0:ab]");
        tree("A=abc/ab/a;", "a", "A[0:a]");
        tree("A=a*b/a*c/a*;", "aa", "A[0:aa].'[1:a].'[1:a]");
    }

    /** "(Nothing is gone back on: what follows must match where that ends.)" */
    private void nothingIsGoneBackOn() {
        tree("A=a?a;", "a", "");
        tree("A=a?a;", "aa", "A[0:aa].'[1:a]");
        tree("A=a*a;", "aa", "");
        tree("A=a+a;", "aa", "");
        tree("A=a*ba;", "aba", "A[0:aba].'[1:a]");
        tree("A=Bc;B=a/ab;", "abc", "");
        tree("A=Bc;B=ab/a;", "abc", "A[0:abc]B[1:ab]");
        tree("A=Bc;B=ab/a;", "ac", "A[0:ac]B[1:a]");
        tree("A=Bb;B=ab/a;", "ab", "");
        tree("A=Bb/ac;B=a*;", "ac", "A[0:ac]");
    }

    /** "? says that, if it doesn't match, it is left out" */
    private void question() {
        tree("A=a?b;", "b", "A[0:b]");
        tree("A=a?b;", "ab", "A[0:ab].'[1:a]");
        tree("A=a?b;", "aab", "");
        tree("A=B?b;B=a;", "b", "A[0:b]");
        tree("A=B?b;B=a;", "ab", "A[0:ab]B'[1:a]");
        tree("A=B?b;B=a?;", "b", "A[0:b]B'[1:]");
        tree("A=B?b;B=ab;", "ab", "");
        tree("A=B?c;B=ab;", "ac", "");
    }

    /** "* that it is taken again and again as long as it matches at least one character" */
    private void star() {
        tree("A=a*b;", "b", "A[0:b]");
        tree("A=a*b;", "ab", "A[0:ab].'[1:a]");
        tree("A=a*b;", "aab", "A[0:aab].'[1:a].'[1:a]");
        tree("A=B*b;B=a?;", "b", "A[0:b]");
        tree("A=B*b;B=a?;", "ab", "A[0:ab]B'[1:a].'[2:a]");
        tree("A=B*;B=;", "", "A[0:]");
        tree("A=B*;B=;", "a", "");
        tree("A=B*c;B=ab;", "ababc", "A[0:ababc]B'[1:ab]B'[1:ab]");
        tree("A=B*ac;B=ab;", "abac", "A[0:abac]B'[1:ab]");
        tree("A=B*;B=/a;", "a", "");
    }

    /** "+ that it is taken once, and then as with *" */
    private void plus() {
        tree("A=a+b;", "b", "");
        tree("A=a+b;", "ab", "A[0:ab].[1:a]");
        tree("A=a+b;", "aab", "A[0:aab].'[1:a].'[1:a]");
        tree("A=B+b;B=a;", "b", "");
        tree("A=B+b;B=a?;", "b", "A[0:b]B[1:]");
        tree("A=B+b;B=a?;", "ab", "A[0:ab]B[1:a].'[2:a]");
        tree("A=B+b;B=a?;", "aab", "A[0:aab]B'[1:a].'[2:a]B'[1:a].'[2:a]");
        tree("A=B+;B=;", "", "A[0:]B[1:]");
        tree("A=B+;B=/a;", "", "A[0:]B[1:]");
        tree("A=B+;B=/a;", "a", "");
        nodes("A=a+;", MANY, 33);
        nodes("A=B+b?;B=a;", MANY, 33);
    }

    /** "the START (at depth 0)": not loose, with all characters. */
    private void theStart() {
        for (char name : "ABCDEF".toCharArray()) {
            ShrinkDesk desk = Hand.desk("aa", "l0", name + "=aa;");
            due.is("node(0) of " + name, desk.node(0), 10000 * (name - 'A') + 2);
            due.is("depth(0) of " + name, desk.depth(0), 0);
            desk.clear();
            due.is("node(0) of " + name + ", no parse", desk.node(0), -1);
        }
        ShrinkDesk full = Hand.desk(MANY, "l0", "F=" + MANY + ";");
        due.is("node(0) of 32", full.node(0), 50032);
        ShrinkDesk empty = Hand.desk("", "l0", "A=;");
        due.is("node(0) of the empty text", empty.node(0), 0);
    }

    /** "if the item is a name or has ? * or + behind it" */
    private void whichItemsGiveNodes() {
        nodes("A=a;", "a", 1);
        nodes("A=abcd;", "abcd", 1);
        nodes("A=a?;", "a", 2);
        nodes("A=a*;", "a", 2);
        nodes("A=a+;", "a", 2);
        nodes("A=B;B=a;", "a", 2);
        nodes("A=B?;B=a;", "a", 2);
        nodes("A=B*;B=a;", "a", 2);
        nodes("A=B+;B=a;", "a", 2);
        nodes("A=a?b*;", "", 1);
        nodes("A=ab?c;", "abc", 2);
    }

    /** "LOOSE if its item has ? or * behind it, or + and was taken twice or more there" */
    private void loose() {
        tree("A=BC?D*E+F+;B=b;C=c;D=d;E=e;F=f;", "bcdeff", "A[0:bcdeff]B[1:b]C'[1:c]D'[1:d]E[1:e]F'[1:f]F'[1:f]");
        tree("A=a?b*c+d+;", "abcdd", "A[0:abcdd].'[1:a].'[1:b].[1:c].'[1:d].'[1:d]");
        tree("A=a+;", "aaa", "A[0:aaa].'[1:a].'[1:a].'[1:a]");
        tree("A=BB;B=a+;", "a", "");
        tree("A=BbB;B=a+;", "aba", "A[0:aba]B[1:a].[2:a]B[1:a].[2:a]");
        tree("A=BbB;B=a+;", "abaa", "A[0:abaa]B[1:a].[2:a]B[1:aa].'[2:a].'[2:a]");
        tree("A=a+a+;", "aa", "");
        tree("A=a+ba+;", "aaba", "A[0:aaba].'[1:a].'[1:a].[1:a]");
        tree("A=B+;B=a?;", "", "A[0:]B[1:]");
    }

    /** "numbered from 0, each before those below it, those of one node from left to right" */
    private void numbered() {
        tree("A=B+C;B=a+b?;C=c*;", "aabacc",
            "A[0:aabacc]B'[1:aab].'[2:a].'[2:a].'[2:b]B'[1:a].[2:a]C[1:cc].'[2:c].'[2:c]");
        tree("A=(A)B?/;B=b;", "((())b)b", "A[0:((())b)b]A[1:(())b]A[2:()]A[3:]B'[2:b]B'[1:b]");
    }

    /** "its depth is 1 more" */
    private void depths() {
        ShrinkDesk desk = Hand.desk("(((((((((((((((", "l0", "A=(A)/;");
        Hand.type(desk, ")))))))))))))))");
        for (int i = 0; i <= 15; i++) {
            due.is("depth(" + i + ")", desk.depth(i), i);
            due.is("node(" + i + ")", desk.node(i), 40 * i + 30 - 2 * i);
        }
        due.is("depth(16)", desk.depth(16), -1);
        ShrinkDesk flat = Hand.desk(MANY, "l0", "A=a*;");
        for (int i = 1; i <= 32; i++) {
            due.is("depth(" + i + ") of a row", flat.depth(i), 1);
        }
    }

    /** "40 * where its characters begin + how many it has": from place 0 to the end of a full text. */
    private void begins() {
        ShrinkDesk desk = Hand.desk(MANY, "l0", "A=C" + "a".repeat(31) + "BC;B=a;C=;");
        due.is("node(1): at the first place", desk.node(1), 20000);
        due.is("node(2): the last character", desk.node(2), 10000 + 40 * 31 + 1);
        due.is("node(3): at the end", desk.node(3), 20000 + 40 * 32);
        due.is("node(4)", desk.node(4), -1);
        ShrinkDesk whole = Hand.desk(MANY, "l0", "F=E?D*;E=" + MANY + ";D=;");
        due.is("node(1): all 32, loose", whole.node(1), 40000 + 5000 + 32);
        due.is("node(2)", whole.node(2), -1);
    }

    /** "and the tree has at most 60 NODES": two for each a. */
    private void sixtyByCharacters() {
        nodes("A=B*;B=a?;", "a".repeat(29), 59);
        nodes("A=B*C;B=a?;C=;", "a".repeat(29), 60);
        nodes("A=B*CC;B=a?;C=;", "a".repeat(29), 0);
        nodes("A=B*;B=a?;", "a".repeat(30), 0);
        nodes("A=B*;B=a?;", MANY, 0);
        nodes("A=B*a?;B=a+b;", "ab".repeat(16), 33);
    }

    private void sixtyByNames() {
        nodes("A=C*;C=B;B=a;", "a".repeat(29), 59);
        nodes("A=C*;C=B;B=a;", "a".repeat(30), 0);
        nodes("A=C*B;C=B;B=a?;", "a".repeat(19), 59);
        nodes("A=C*BB;C=B;B=a?;", "a".repeat(19), 60);
        nodes("A=C*BBB;C=B;B=a?;", "a".repeat(19), 0);
        nodes("A=C*;C=B;B=a;", MANY, 0);
    }

    /** Nodes without characters count as well, even if there are very many of them. */
    private void sixtyWithoutCharacters() {
        nodes("A=" + "B".repeat(54) + ";B=;", "", 55);
        nodes("A=" + "B".repeat(29) + ";B=C;C=;", "", 59);
        nodes("A=" + "B".repeat(29) + "C;B=C;C=;", "", 60);
        nodes("A=" + "B".repeat(29) + "CC;B=C;C=;", "", 0);
        nodes("A=" + "B".repeat(30) + ";B=C;C=;", "", 0);
        nodes("A=BBBBBBBB;B=CCCCCCCC;C=DDDDDDDD;D=EEEEEEEE;E=FFFFFFFF;F=;", "", 0);
    }

    /** The nodes of what was tried and does not stand in the tree do not count. */
    private void moreThanSixtyElsewhere() {
        nodes("A=B*c/a*;B=a?;", "a".repeat(31), 32);
        nodes("A=B*c/a*;B=a?;", MANY, 33);
        nodes("A=C/a*;C=B*c;B=a?;", "a".repeat(31), 32);
        nodes("A=C?a*;C=B*c;B=a?;", "a".repeat(31), 32);
        nodes("A=B*/a*;B=a?;", "a".repeat(30), 0);
    }

    /** The depth of 60 nodes, each below the one before, goes up to 59. */
    private void deepest() {
        ShrinkDesk desk = Hand.desk("a".repeat(9), "l0", "A=B;B=C;C=D;D=E;E=F;F=aA/;");
        due.is("nodes()", desk.nodes(), 60);
        due.is("depth(59)", desk.depth(59), 59);
        due.is("node(59)", desk.node(59), 50000 + 40 * 9);
        due.is("depth(60)", desk.depth(60), -1);
        nodes("A=B;B=C;C=D;D=E;E=F;F=aA/a;", "a".repeat(10), 60);
        nodes("A=B;B=C;C=D;D=E;E=F;F=aA/aC/;", "a".repeat(10), 0);
        nodes("A=B;B=C;C=D;D=E;E=F;F=aA/;", "a".repeat(10), 0);
        nodes("A=B;B=C;C=D;D=E;E=F;F=aA/;", MANY, 0);
        nodes("A=aA/;", MANY, 33);
        nodes("A=aA/a;", MANY, 32);
    }

    /** "0 when it does not parse; -1 when there is no grammar"; "-1 when there is none" */
    private void none() {
        int[] outside = {Integer.MIN_VALUE, -60, -1, 3, 4, 59, 60, 61, 1000, Integer.MAX_VALUE};
        for (int i : outside) {
            ShrinkDesk desk = Hand.desk("aa", "l0", "A=a*;");
            due.is("node(" + i + ")", desk.node(i), -1);
            due.is("depth(" + i + ")", desk.depth(i), -1);
        }
        for (int i = -1; i <= 3; i++) {
            due.is("node(" + i + "), no grammar", Hand.desk("aa", "l0").node(i), -1);
            due.is("depth(" + i + "), no grammar", Hand.desk("aa", "l0").depth(i), -1);
            due.is("node(" + i + "), no parse", Hand.desk("ab", "l0", "A=a*;").node(i), -1);
            due.is("depth(" + i + "), no parse", Hand.desk("ab", "l0", "A=a*;").depth(i), -1);
        }
        due.is("nodes(), no grammar", Hand.desk("aa", "l0").nodes(), -1);
        due.is("nodes(), no grammar, empty", new ShrinkDesk().nodes(), -1);
        due.is("nodes(), no parse", Hand.desk("ab", "l0", "A=a*;").nodes(), 0);
        due.is("nodes(), no parse, empty", Hand.desk("", "l0", "A=a+;").nodes(), 0);
        due.is("nodes(), empty", Hand.desk("", "l0", "A=a*;").nodes(), 1);
    }

    /** The tree is that of what is typed just now. */
    private void ofTheTypedText() {
        ShrinkDesk desk = new ShrinkDesk();
        Hand.read(desk, "A=a*b?;");
        due.is("of none", desk.nodes(), 1);
        Hand.type(desk, "aa");
        due.is("of aa", desk.nodes(), 3);
        due.is("node(2) of aa", desk.node(2), 65041);
        desk.type('b');
        due.is("node(3) of aab", desk.node(3), 65081);
        desk.type('b');
        due.is("node(0) of aabb", desk.node(0), -1);
        desk.clear();
        due.is("node(0) after clear()", desk.node(0), 0);
        due.is("node(1) after clear()", desk.node(1), -1);
        Hand.type(desk, "aab");
        Hand.mark(desk, "hb1", false);
        desk.reduce(0, 400);
        due.is("node(1) after reduce", desk.node(1), 65001);
        due.is("node(2) after reduce", desk.node(2), -1);
    }
}
