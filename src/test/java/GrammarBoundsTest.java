/** "A GRAMMAR", promises 4 write and 5 read: each sentence that names a boundary, on both sides of it. */
public final class GrammarBoundsTest {
    private final Due due = new Due("GrammarBoundsTest");

    public static void main(String[] args) {
        GrammarBoundsTest test = new GrammarBoundsTest();
        test.everyCharacter();
        test.upTo60();
        test.refusedWrites();
        test.oneOrMoreRules();
        test.eachRuleWhole();
        test.perhapsNoItems();
        test.perhapsOneTail();
        test.oneRuleAtMost();
        test.everyUsedNameHasOne();
        test.theFirstIsTheStart();
        test.leadsToItself();
        test.leadsBySeveral();
        test.leadsBehindEmptiable();
        test.emptiable();
        test.readTakesWhatIsTyped();
        test.noGrammarAfterAWrongOne();
        test.nothingOfAnEarlierGrammar();
        test.due.end();
    }

    /** No name is another one's better: so the answer is the same when the names change places. */
    private void reads(String grammar, int want) {
        for (int by = 0; by < 6; by++) {
            readsJust(renamed(grammar, by), want);
        }
    }

    private static String renamed(String grammar, int by) {
        StringBuilder renamed = new StringBuilder();
        for (char c : grammar.toCharArray()) {
            renamed.append(c >= 'A' && c <= 'F' ? (char) ('A' + (c - 'A' + by) % 6) : c);
        }
        return renamed.toString();
    }

    private void readsJust(String grammar, int want) {
        ShrinkDesk desk = new ShrinkDesk();
        due.is("write " + grammar, Hand.write(desk, grammar), true);
        due.is("nodes() before read() of " + grammar, desk.nodes(), -1);
        due.is("read() of " + grammar, desk.read(), want);
        due.is("is there a grammar after " + grammar, desk.nodes() >= 0, want > 0);
        due.is("read() of nothing after " + grammar, desk.read(), -1);
    }

    private void tree(String grammar, String text, String want) {
        ShrinkDesk desk = new ShrinkDesk();
        Hand.read(desk, grammar);
        Hand.type(desk, text);
        due.is("tree of \"" + text + "\" by " + grammar, Hand.tree(desk), want);
    }

    /** "those of a text, and the capital letters A .. F (NAMES), and = / ; ? * +" */
    private void everyCharacter() {
        int taken = 0;
        for (int c = 0; c < 65536; c++) {
            boolean isSign = Hand.GRAMMAR_SIGNS.indexOf((char) c) >= 0;
            boolean written = new ShrinkDesk().write((char) c);
            taken += written ? 1 : 0;
            if (written != isSign) {
                due.is("write of character " + c, written, isSign);
            }
        }
        due.is("characters of a grammar", taken, 53);
    }

    /** "A GRAMMAR is a text of up to 60 characters" */
    private void upTo60() {
        for (int length = 3; length <= 62; length++) {
            ShrinkDesk desk = new ShrinkDesk();
            String grammar = "A=" + "a?".repeat((length - 3) / 2) + "a".repeat((length - 3) % 2) + ";";
            due.is("write " + length, Hand.write(desk, grammar), length <= 60);
            due.is("read() of " + length, desk.read(), length <= 60 ? 1 : -1);
        }
        ShrinkDesk desk = new ShrinkDesk();
        for (int i = 1; i <= 62; i++) {
            due.is("write as number " + i, desk.write(i == 1 ? 'A' : i == 2 ? '=' : i == 60 ? ';' : 'a'), i <= 60);
        }
        due.is("read() of the first 60", desk.read(), 1);
        for (int i = 1; i <= 62; i++) {
            due.is("write as number " + i + " again", desk.write('a'), i <= 60);
        }
        due.is("read() of 60 that are no grammar", desk.read(), -1);
        due.is("write after that", desk.write('A'), true);
        tree("A=" + "a".repeat(32) + "/" + "b".repeat(24) + ";", "a".repeat(32), "A[0:" + "a".repeat(32) + "]");
        tree("A=" + "a/".repeat(28) + "b;", "b", "A[0:b]");
        reads("A=" + "B".repeat(54) + ";B=;", 2);
        reads("A=B?C?D?E?F?;B=C?D?E?F?;C=D?E?F?;D=E?F?;E=F?;F=" + "a".repeat(12) + ";", 6);
    }

    /** "false when it is none of a grammar, or there are 60": and nothing is put behind what is typed. */
    private void refusedWrites() {
        ShrinkDesk desk = new ShrinkDesk();
        for (char c : "GA=Ha:.;Z_".toCharArray()) {
            due.is("write(" + c + ")", desk.write(c), "A=a;".indexOf(c) >= 0);
        }
        due.is("read()", desk.read(), 1);
        Hand.type(desk, "a");
        due.is("tree", Hand.tree(desk), "A[0:a]");
    }

    /** "It is a row of one or more RULES" */
    private void oneOrMoreRules() {
        reads("", -1);
        reads("A=a;", 1);
        reads("F=a;", 1);
        reads("A=a;B=b;", 2);
        reads("A=a;B=b;C=c;", 3);
        reads("F=a;E=b;D=c;C=d;", 4);
        reads("A=a;B=b;C=c;D=d;E=e;", 5);
        reads("A=a;B=b;C=c;D=d;E=e;F=f;", 6);
    }

    /** "each a name, =, its ALTERNATIVES with / between them, and ;" */
    private void eachRuleWhole() {
        String whole = "A=a/b?B;B=b;";
        reads(whole, 2);
        for (int i = 1; i < whole.length(); i++) {
            reads(whole.substring(0, i), -1);
        }
        reads("A=a/b?;", 1);
        String[] wrong = {
            ";", "A;", "A", "=", "=;", "A=a", "A=", "a=a;", "=a;", "1=a;", " =a;", "/=a;", "A/=a;", "A?=a;", "Aa;", "A==a;",
            "A=a=b;", "A=a;;", ";A=a;", "A=a;/", "A=a;a", "A=a;B", "A=a;B=", "A=a;B=b", "A=a;=b;", "A=a;b=b;", "AB=a;",
            "A=a B=b", "A=a,B=b;", "A=a; B=b;", " A=a;", "A =a;", "A=a; ", "A=a;B;", "A=a;?", "A=a;*", "A=B=a;;",
        };
        for (String grammar : wrong) {
            reads(grammar, -1);
        }
    }

    /** "An alternative is a row of ITEMS, perhaps none" */
    private void perhapsNoItems() {
        reads("A=;", 1);
        reads("A=/;", 1);
        reads("A=///;", 1);
        reads("A=/a;", 1);
        reads("A=a/;", 1);
        reads("A=a//b;", 1);
        reads("A=B;B=;", 2);
        tree("A=;", "", "A[0:]");
        tree("A=;", "a", "");
        tree("A=a/;", "", "A[0:]");
        tree("A=a/;", "a", "A[0:a]");
        tree("A=/a;", "a", "");
        tree("A=a//b;", "", "A[0:]");
        tree("A=a//b;", "b", "");
    }

    /** "an item is a character of a text or a name, with perhaps one of ? * + behind it" */
    private void perhapsOneTail() {
        String tails = "?*+";
        for (char tail : tails.toCharArray()) {
            reads("A=a" + tail + ";", 1);
            reads("A=aB" + tail + ";B=b;", 2);
            reads("A=a" + tail + "b" + tail + ";", 1);
            reads("A= " + tail + ";", 1);
            reads("A=" + tail + ";", -1);
            reads("A=" + tail + "a;", -1);
            reads("A=a/" + tail + ";", -1);
            reads("A=/" + tail + "a;", -1);
            reads("A" + tail + "=a;", -1);
            reads("A=a;" + tail, -1);
            for (char other : tails.toCharArray()) {
                reads("A=a" + tail + other + ";", -1);
                reads("A=aB" + tail + other + ";B=b;", -1);
            }
        }
        for (char sign : Hand.TEXT_SIGNS.toCharArray()) {
            tree("A=" + sign + ";", "" + sign, "A[0:" + sign + "]");
            tree("A=" + sign + "+;", "" + sign + sign, "A[0:" + sign + sign + "].'[1:" + sign + "].'[1:" + sign + "]");
        }
    }

    /** "Every name has one rule at most" */
    private void oneRuleAtMost() {
        for (char name : "ABCDEF".toCharArray()) {
            reads(name + "=a;", 1);
            reads(name + "=a;" + name + "=a;", -1);
        }
        reads("A=a;B=b;A=;", -1);
        reads("A=a;B=b;B=b;", -1);
        reads("A=a;B=b;C=c;D=d;E=e;F=f;F=f;", -1);
        reads("A=aA/b/B;B=b;", 2);
    }

    /** "every name that is used as an item has one" */
    private void everyUsedNameHasOne() {
        for (char name : "BCDEF".toCharArray()) {
            reads("A=a" + name + ";" + name + "=b;", 2);
            reads("A=a" + name + ";", -1);
            reads("A=a/b/c" + name + "*;", -1);
            reads("A=a" + name + "?;", -1);
            reads("A=a;" + name + "=b;", 2);
        }
        reads("A=a;B=C;", -1);
        reads("A=a;B=C;C=;", 3);
        reads("B=aA;A=b;", 2);
        reads("B=aA;", -1);
        reads("B=aB/b;", 1);
    }

    /** "The first rule is the START." */
    private void theFirstIsTheStart() {
        tree("B=aA;A=b;", "ab", "B[0:ab]A[1:b]");
        tree("B=aA;A=b;", "b", "");
        tree("A=b;B=aA;", "b", "A[0:b]");
        tree("A=b;B=aA;", "ab", "");
        tree("F=a;A=b;", "a", "F[0:a]");
    }

    /** "It must not be that from some rule one comes to that rule again by leading, once" */
    private void leadsToItself() {
        reads("A=aA/b;", 1);
        reads("A=A;", -1);
        reads("A=A?;", -1);
        reads("A=A*;", -1);
        reads("A=A+;", -1);
        reads("A=Aa/b;", -1);
        reads("A=b/Aa;", -1);
        reads("A=b/c/aA/A;", -1);
        reads("A=b/c/aA/dA;", 1);
        reads("A=a;B=Bb/b;", -1);
        reads("A=a;B=bB/b;", 2);
        reads("A=a;B=b;C=c;D=d;E=e;F=F;", -1);
        reads("A=a;B=b;C=c;D=d;E=e;F=fF;", 6);
    }

    /** ".. or several times" */
    private void leadsBySeveral() {
        reads("A=B;B=A;", -1);
        reads("A=B;B=aA;", 2);
        reads("A=aB;B=A;", 2);
        reads("A=B;B=C;C=A;", -1);
        reads("A=B;B=C;C=aA;", 3);
        reads("A=B;B=C;C=D;D=E;E=F;F=A;", -1);
        reads("A=B;B=C;C=D;D=E;E=F;F=aA;", 6);
        reads("F=E;E=D;D=C;C=B;B=A;A=F;", -1);
        reads("F=E;E=D;D=C;C=B;B=A;A=aF;", 6);
        reads("A=B;B=C;C=D;D=E;E=F;F=E;", -1);
        reads("A=a;B=aC;C=D;D=E;E=F;F=D;", -1);
        reads("A=a;B=aC;C=D;D=E;E=F;F=fD;", 6);
        reads("A=a/B;B=b/C;C=c/A;", -1);
        reads("A=B/C;B=C;C=c;", 3);
    }

    /** "before which there are only items with ? or * behind them or names of emptiable rules (also with +)" */
    private void leadsBehindEmptiable() {
        String[] before = {"", "b?", "b*", "B?", "B*", "E", "E?", "E*", "E+", "b?b*", "EE", "E+b?", "B*E"};
        String[] notOnly = {"b", "b+", "B", "B+", "bE", "b?b", "EB", "B+E", "Eb+", "b*B", "BB?", "E*b"};
        String others = "B=b;E=e?;";
        for (String tail : new String[] {"", "?", "*", "+"}) {
            for (String items : before) {
                reads("A=" + items + "A" + tail + "/a;" + others, -1);
                reads("A=" + items + "C" + tail + "/a;C=" + items + "A;" + others, -1);
                reads("A=" + items + "C" + tail + "/a;C=cA;" + others, 4);
            }
            for (String items : notOnly) {
                reads("A=" + items + "A" + tail + "/a;" + others, 3);
                reads("A=" + items + "C" + tail + "/a;C=" + items + "A;" + others, 4);
                reads("A=" + items + "C" + tail + "/a;C=A;" + others, 4);
            }
        }
        // What stands behind an alternative is the next one's.
        reads("A=b?;B=A;", 2);
        reads("A=aB/b?;B=A;", 2);
        reads("A=/b?;B=cC/b?;C=B/A;", 3);
    }

    /** "EMPTIABLE if in one of its alternatives each item has ? or * behind it or is the name of an emptiable rule" */
    private void emptiable() {
        String[] may = {"", "/e", "e/", "e?", "e*", "e?f*", "F", "F?", "F+", "F*", "FF+e?", "e/f/F", "e/FF", "G?", "e/G*"};
        String[] mayNot = {"e", "e+", "e?f", "ee?", "Fe", "F+e", "e/f", "G", "G+", "GF", "FG", "e/G", "F?G+"};
        for (String rows : may) {
            reads(("A=EA/a;E=" + rows + ";F=f?;B=b;").replace('G', 'B'), -1);
        }
        for (String rows : mayNot) {
            reads(("A=EA/a;E=" + rows + ";F=f?;B=b;").replace('G', 'B'), 4);
        }
        reads("A=BA/a;B=C;C=D+;D=E;E=F;F=f?;", -1);
        reads("A=BA/a;B=C;C=D+;D=E;E=F;F=f;", 6);
        reads("F=f?;E=F;D=E;C=D;B=C;A=BA/a;", -1);
        reads("F=f;E=F;D=E;C=D;B=C;A=BA/a;", 6);
    }

    /** "What was typed for a grammar is read (and nothing is typed for one then)" */
    private void readTakesWhatIsTyped() {
        for (String first : new String[] {"A=a;", "A=a", "", "A=A;", "A=B;"}) {
            ShrinkDesk desk = new ShrinkDesk();
            due.is("read() of " + first, Hand.read(desk, first), first.equals("A=a;") ? 1 : -1);
            due.is("read() of B=b; after " + first, Hand.read(desk, "B=b;"), 1);
            Hand.type(desk, "b");
            due.is("tree after " + first, Hand.tree(desk), "B[0:b]");
            due.is("write of 60 after " + first, Hand.write(desk, "a".repeat(60)), true);
            due.is("write of the 61st after " + first, desk.write('a'), false);
        }
    }

    /** "Otherwise there is no grammar from now on, and the answer is -1." */
    private void noGrammarAfterAWrongOne() {
        for (String wrong : new String[] {"", "A=a", "a", "A=a??;", "A=B;", "A=a;A=a;", "A=Aa;", "A=B;B=A;"}) {
            ShrinkDesk desk = Hand.desk("a", "ha1", "A=a?;");
            due.is("nodes() before " + wrong, desk.nodes(), 2);
            Hand.write(desk, wrong);
            due.is("nodes() before read() of " + wrong, desk.nodes(), 2);
            due.is("read() of " + wrong, desk.read(), -1);
            due.is("nodes() after " + wrong, desk.nodes(), -1);
            due.is("node(0) after " + wrong, desk.node(0), -1);
            due.is("depth(0) after " + wrong, desk.depth(0), -1);
            for (int kind = 0; kind <= 4; kind++) {
                int answer = Hand.read(desk, wrong) + desk.reduce(kind, 400);
                due.is("reduce(" + kind + ", 400) after " + wrong, answer, kind >= 2 ? -4 : 0);
            }
            due.is("text after " + wrong, Hand.text(desk), "a");
            due.is("outcome() after " + wrong, desk.outcome(), 1);
        }
    }

    /** "it is the grammar from now on": with all of its rules, and with none of another one. */
    private void nothingOfAnEarlierGrammar() {
        ShrinkDesk desk = new ShrinkDesk();
        due.is("read() of six rules", Hand.read(desk, "A=B;B=C;C=D;D=E;E=F;F=a?;"), 6);
        due.is("nodes() by them", desk.nodes(), 6);
        due.is("read(): B is not there any more", Hand.read(desk, "A=aB;"), -1);
        due.is("read(): B is not emptiable any more", Hand.read(desk, "A=BA/a;B=b;"), 2);
        due.is("read(): A has one rule", Hand.read(desk, "A=a?;"), 1);
        Hand.type(desk, "a");
        due.is("tree by it", Hand.tree(desk), "A[0:a].'[1:a]");
        due.is("read(): the start is another one", Hand.read(desk, "C=A;A=a;"), 2);
        due.is("tree by it", Hand.tree(desk), "C[0:a]A[1:a]");
        due.is("read(): the first alternative is another one", Hand.read(desk, "C=b/a+;"), 1);
        due.is("tree by it", Hand.tree(desk), "C[0:a].[1:a]");
        due.is("read() of 57 alternatives", Hand.read(desk, "A=" + "/".repeat(56) + ";"), 1);
        due.is("nodes() by them", desk.nodes(), 0);
        due.is("read() after 57 alternatives", Hand.read(desk, "A=a?b?;"), 1);
        due.is("tree by it", Hand.tree(desk), "A[0:a].'[1:a]");
    }
}
