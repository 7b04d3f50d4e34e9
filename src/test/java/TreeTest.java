/** Promises 14 nodes, 15 node and 16 depth: how rules match, and the tree of a text. */
public final class TreeTest {
    public static void main(String[] args) {
        Due due = new Due("TreeTest");
        numbers(due);
        matching(due);
        tails(due);
        emptyTakings(due);
        sixtyNodes(due);
        manyEmptyNodes(due);
        deep(due);
        theTextMoves(due);
        due.end();
    }

    private static void numbers(Due due) {
        ShrinkDesk desk = new ShrinkDesk();
        Hand.read(desk, "F=aB*-C;B=b;C=c?d+;");
        Hand.type(desk, "abb-dd");
        due.is("nodes()", desk.nodes(), 6);
        due.is("node(0)", desk.node(0), 50006);
        due.is("node(1)", desk.node(1), 10000 + 5000 + 40 + 1);
        due.is("node(2)", desk.node(2), 10000 + 5000 + 80 + 1);
        due.is("node(3)", desk.node(3), 20000 + 160 + 2);
        due.is("node(4)", desk.node(4), 60000 + 5000 + 160 + 1);
        due.is("node(5)", desk.node(5), 60000 + 5000 + 200 + 1);
        due.is("depth(0)", desk.depth(0), 0);
        due.is("depth(2)", desk.depth(2), 1);
        due.is("depth(3)", desk.depth(3), 1);
        due.is("depth(5)", desk.depth(5), 2);
        int[] outside = {-1, 6, 7, 59, 60, 61, Integer.MIN_VALUE, Integer.MAX_VALUE};
        for (int i : outside) {
            due.is("node(" + i + ")", desk.node(i), -1);
            due.is("depth(" + i + ")", desk.depth(i), -1);
        }
        desk.type('e');
        due.is("nodes() when it doesn't parse", desk.nodes(), 0);
        due.is("node(0) when it doesn't parse", desk.node(0), -1);
        due.is("depth(0) when it doesn't parse", desk.depth(0), -1);
        desk.clear();
        due.is("nodes() of the empty text", desk.nodes(), 0);
        Hand.read(desk, "A=;");
        due.is("node(0) of the empty text", desk.node(0), 0);
        due.is("nodes() of the empty text", desk.nodes(), 1);
    }

    private static void matching(Due due) {
        tree(due, "A=a/ab;", "a", "A[0:a]");
        tree(due, "A=a/ab;", "ab", "");
        tree(due, "A=ab/a;", "ab", "A[0:ab]");
        tree(due, "A=ab/a;", "a", "A[0:a]");
        tree(due, "A=Bb;B=a/ab;", "ab", "A[0:ab]B[1:a]");
        tree(due, "A=Bb;B=ab/a;", "ab", "");
        tree(due, "A=a*a;", "aa", "");
        tree(due, "A=a?a;", "a", "");
        tree(due, "A=a?a;", "aa", "A[0:aa].'[1:a]");
        tree(due, "A=/a;", "", "A[0:]");
        tree(due, "A=/a;", "a", "");
        tree(due, "A=a/;", "a", "A[0:a]");
        tree(due, "A=Ba/Bb;B=c*;", "ccb", "A[0:ccb]B[1:cc].'[2:c].'[2:c]");
        tree(due, "A=a*b/a*c;", "aac", "A[0:aac].'[1:a].'[1:a]");
        tree(due, "A=BC;B=a;C=b;", "abc", "");
        tree(due, "A=BC;B=a;C=b;", "a", "");
        tree(due, "A=(A)/B;B=a/b;", "((b))", "A[0:((b))]A[1:(b)]A[2:b]B[3:b]");
        tree(due, "A=B*;B=a/(A);", "a(a)", "A[0:a(a)]B'[1:a]B'[1:(a)]A[2:a]B'[3:a]");
        tree(due, "A=B C;B=-?1+;C=,?;", "-11 ,", "A[0:-11 ,]B[1:-11].'[2:-].'[2:1].'[2:1]C[1:,].'[2:,]");
        tree(due, "A=a;B=b;", "b", "");
    }

    private static void tails(Due due) {
        tree(due, "A=a?;", "", "A[0:]");
        tree(due, "A=a?;", "a", "A[0:a].'[1:a]");
        tree(due, "A=a?;", "aa", "");
        tree(due, "A=a*;", "", "A[0:]");
        tree(due, "A=a*;", "aa", "A[0:aa].'[1:a].'[1:a]");
        tree(due, "A=a+;", "", "");
        tree(due, "A=a+;", "a", "A[0:a].[1:a]");
        tree(due, "A=a+;", "aa", "A[0:aa].'[1:a].'[1:a]");
        tree(due, "A=B?;B=a;", "a", "A[0:a]B'[1:a]");
        tree(due, "A=B*;B=a;", "a", "A[0:a]B'[1:a]");
        tree(due, "A=B+;B=a;", "a", "A[0:a]B[1:a]");
        tree(due, "A=B+;B=a;", "aaa", "A[0:aaa]B'[1:a]B'[1:a]B'[1:a]");
        tree(due, "A=B+cB+;B=a;", "aaca", "A[0:aaca]B'[1:a]B'[1:a]B[1:a]");
        tree(due, "A=B;B=a+;", "aa", "A[0:aa]B[1:aa].'[2:a].'[2:a]");
    }

    private static void emptyTakings(Due due) {
        tree(due, "A=B;B=a?;", "", "A[0:]B[1:]");
        tree(due, "A=B?;B=a?;", "", "A[0:]B'[1:]");
        tree(due, "A=B*;B=a?;", "", "A[0:]");
        tree(due, "A=B+;B=a?;", "", "A[0:]B[1:]");
        tree(due, "A=B*;B=a?;", "aa", "A[0:aa]B'[1:a].'[2:a]B'[1:a].'[2:a]");
        tree(due, "A=B+;B=a?;", "a", "A[0:a]B[1:a].'[2:a]");
        tree(due, "A=B+;B=a?;", "aa", "A[0:aa]B'[1:a].'[2:a]B'[1:a].'[2:a]");
        tree(due, "A=BbB;B=a*;", "b", "A[0:b]B[1:]B[1:]");
        tree(due, "A=B+b;B=a*;", "b", "A[0:b]B[1:]");
        tree(due, "A=B+b;B=/a;", "b", "A[0:b]B[1:]");
        tree(due, "A=B?C;B=C*;C=a?;", "", "A[0:]B'[1:]C[1:]");
    }

    /** "A=a*;" gives one node more than there are characters; so names are needed to come to 60. */
    private static void sixtyNodes(Due due) {
        nodes(due, "A=a*;", "a".repeat(32), 33);
        nodes(due, "A=B*b*;B=a;", "a".repeat(32), 33);
        nodes(due, "A=B*;B=a?;", "a".repeat(29), 59);
        nodes(due, "A=B*;B=a?;", "a".repeat(30), 0);
        nodes(due, "A=B*C;B=a?;C=;", "a".repeat(29), 60);
        nodes(due, "A=B*CC;B=a?;C=;", "a".repeat(29), 0);
        nodes(due, "A=B*CC;B=a?;C=;", "a".repeat(28), 59);
        nodes(due, "A=B*/a*;B=a?;", "a".repeat(30), 0);
        nodes(due, "A=B*c/a*;B=a?;", "a".repeat(30), 31);
        ShrinkDesk desk = new ShrinkDesk();
        Hand.read(desk, "A=B*C;B=a?;C=;");
        Hand.type(desk, "a".repeat(29));
        due.is("node(58)", desk.node(58), 65000 + 40 * 28 + 1);
        due.is("node(59)", desk.node(59), 20000 + 40 * 29);
        due.is("node(60)", desk.node(60), -1);
        due.is("depth(59)", desk.depth(59), 1);
        desk.type('a');
        due.is("node(0) of a tree with more", desk.node(0), -1);
    }

    private static void manyEmptyNodes(Due due) {
        nodes(due, "A=BBBB;B=CC;C=DDDD;D=;", "", 1 + 4 + 8 + 32);
        nodes(due, "A=BBBB;B=CC;C=DDDDD;D=;", "", 1 + 4 + 8 + 40);
        nodes(due, "A=BBBB;B=CCC;C=DDDD;D=;", "", 0);
        nodes(due, "A=BBBBBBBB;B=CCCCCCCC;C=DDDDDDDD;D=EEEEEEEE;E=FFFFFFF;F=;", "", 0);
        nodes(due, "A=BBBBBBBBb/a?;B=CCCCCCCC;C=DDDDDDDD;D=EEEEEEE;E=FFFFFF;F=;", "", 1);
    }

    private static void deep(Due due) {
        nodes(due, "A=B;B=C;C=D;D=E;E=F;F=aA/;", "a".repeat(8), 6 * 9);
        nodes(due, "A=B;B=C;C=D;D=E;E=F;F=aA/;", "a".repeat(9), 6 * 10);
        nodes(due, "A=B;B=C;C=D;D=E;E=F;F=aA/;", "a".repeat(10), 0);
        nodes(due, "A=B;B=C;C=D;D=E;E=F;F=aA/;", "a".repeat(32), 0);
        nodes(due, "A=aA/;", "a".repeat(32), 33);
        nodes(due, "A=(A)/;", "(".repeat(16) + ")".repeat(16), 17);
        ShrinkDesk desk = new ShrinkDesk();
        Hand.read(desk, "A=B;B=C;C=D;D=E;E=F;F=aA/;");
        Hand.type(desk, "a".repeat(9));
        due.is("depth(59)", desk.depth(59), 59);
        due.is("node(59)", desk.node(59), 50000 + 40 * 9);
    }

    /** What was found out for one text must not be told of another one. */
    private static void theTextMoves(Due due) {
        ShrinkDesk desk = new ShrinkDesk();
        Hand.read(desk, "A=B*;B=a/b+;");
        String[] texts = {"abb", "babb", "bb", "", "a", "ba", "bba", "c", "ca", "aba", "abc", "ab"};
        int[] wanted = {5, 7, 4, 1, 2, 4, 5, 0, 0, 5, 0, 4};
        for (int i = 0; i < texts.length; i++) {
            Hand.retype(desk, texts[i]);
            due.is("nodes() of " + texts[i], desk.nodes(), wanted[i]);
        }
        Hand.read(desk, "A=ab;");
        due.is("nodes() of ab by another grammar", desk.nodes(), 1);
        Hand.read(desk, "A=ba;");
        due.is("nodes() of ab by a grammar that it doesn't fit", desk.nodes(), 0);
        Hand.read(desk, "A=aB;B=b;");
        due.is("nodes() of ab by one that it fits again", desk.nodes(), 2);
    }

    private static void tree(Due due, String grammar, String text, String want) {
        ShrinkDesk desk = new ShrinkDesk();
        Hand.read(desk, grammar);
        Hand.type(desk, text);
        due.is("tree of \"" + text + "\" by " + grammar, Hand.tree(desk), want);
    }

    private static void nodes(Due due, String grammar, String text, int want) {
        ShrinkDesk desk = new ShrinkDesk();
        due.is("written " + grammar, Hand.read(desk, grammar) > 0, true);
        Hand.type(desk, text);
        due.is("nodes() of \"" + text + "\" by " + grammar, desk.nodes(), want);
    }
}
