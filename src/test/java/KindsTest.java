/** "THE REDUCTIONS, by kind": every text that is asked for, at each boundary that the sentences name. */
public final class KindsTest {
    private static final String NESTED = "A=B*;B=a/(A);";

    private final Due due = new Due("KindsTest");

    public static void main(String[] args) {
        KindsTest test = new KindsTest();
        test.characters();
        test.words();
        test.fullOfWords();
        test.levelsOfNoCharacters();
        test.levels();
        test.levelsAnew();
        test.levelsAsInTheBeginning();
        test.manyUnits();
        test.againAndAgain();
        test.movesOfNoCharacters();
        test.looseMoves();
        test.movesToWhatIsBelow();
        test.orderOfMoves();
        test.anewAfterAMove();
        test.movesThatDoNotParse();
        test.movesToMoreNodesThanMayBe();
        test.takenTexts();
        test.kindsAndProbes();
        test.firstNamed();
        test.sixtyNodes();
        test.due.end();
    }

    private Asked of(String text, String wrong) {
        return new Asked(due, text, wrong, null);
    }

    private Asked of(String text, String wrong, String grammar) {
        return new Asked(due, text, wrong, grammar);
    }

    private static ShrinkDesk after(int kind, String text, String wrong, String grammar) {
        ShrinkDesk desk = Hand.desk(text, wrong, grammar);
        desk.reduce(kind, 400);
        return desk;
    }

    /** "0: the units are the characters; they are lessened." A space is one like any other. */
    private void characters() {
        of(" a", "l2").by(0, " a", " ", "a");
        of("a b", "ha1;hb1;&").by(0, "ab", "a", " b", "a", " ", "b", " b", "ab", "a", "b");
        of("aa", "ha2").by(0, "aa", "a", "a");
    }

    /** "a unit begins at the first character and at each one that is no space but stands behind one" */
    private void words() {
        of("", "l0").by(1, "");
        of("a", "ha1").by(1, "a", "");
        of(" ", "h 1").by(1, " ", "");
        of("   ", "h 1").by(1, "   ", "");
        of("abc", "ha1").by(1, "abc", "");
        of("abc  ", "ha1").by(1, "abc  ", "");
        of(" a", "l2").by(1, " a", " ", "a");
        of("  a", "l3").by(1, "  a", "  ", "a");
        of("a b", "l3").by(1, "a b", "a ", "b");
        of("a  b", "l4").by(1, "a  b", "a  ", "b");
        of(" ab cd ", "l7").by(1, " ab cd ", " ", "ab cd ", " ", "ab ", "cd ", "ab cd ", " cd ", " ab ");
        of("a,b-1()c", "l8").by(1, "a,b-1()c", "");
        of(", -", "l3").by(1, ", -", ", ", "-");
        of(") (", "l3").by(1, ") (", ") ", "(");
        of("1 2", "l3").by(1, "1 2", "1 ", "2");
        of("a b c", "hb1").by(1, "b ", "a ", "b c", "b ", "");
    }

    /** 32 characters have no more than 16 words, or 17 parts of which the first is a space. */
    private void fullOfWords() {
        ShrinkDesk words = Hand.desk("a ".repeat(16), "l32");
        words.remember(false);
        due.is("reduce(1, 400) of 16 words", words.reduce(1, 400), 32);
        due.is("its counts", Hand.counts(words), (2 + 2 * (4 + 8 + 16)) + " 0 1 0 0");
        ShrinkDesk last = Hand.desk(" a".repeat(15) + " b", "hb1");
        due.is("reduce(1, 400) to the last word", last.reduce(1, 400), 1);
        due.is("its text", Hand.text(last), "b");
        ShrinkDesk first = Hand.desk(" a".repeat(16), "h 1");
        due.is("reduce(1, 400) to the space before the first word", first.reduce(1, 400), 1);
        due.is("its text", Hand.text(first), " ");
    }

    /** "the units are the nodes of this depth, with all their characters (if any)" */
    private void levelsOfNoCharacters() {
        for (int kind = 2; kind <= 3; kind++) {
            of("", "l0", "A=;").by(kind, "");
            of("", "l0", "A=a?;").by(kind, "");
            of("", "l0", "A=B*;B=a*;").by(kind, "");
            of("", "l0", "A=B;B=;").by(kind, "", "");
            of("", "l0", "A=B?;B=;").by(kind, "", "");
            of("", "l0", "A=B+;B=;").by(kind, "", "");
            of("", "l0", "A=BB;B=;").by(kind, "", "", "");
            of("", "l0", "A=B;B=CC;C=;").by(kind, "", "");
            of("a", "ha1", "A=a;").by(kind, "a");
            of("a", "ha1", "A=aB;B=;").by(kind, "a", "a");
            of("a", "ha1", "A=Ba;B=b?;").by(kind, "a", "a");
            of("c", "hc1", "A=BC;B=b?;C=c?;").by(kind, "c", "", "c", "", "");
            of("b", "hb1", "A=BC;B=b?;C=c?;").by(kind, "b", "b", "", "");
        }
    }

    /** "for the depths 1, 2, .. up to the greatest: the units are the nodes of this depth .. below nodes .. still kept" */
    private void levels() {
        of("c", "hc1", "A=B;B=C;C=c?;").by(2, "c", "", "", "");
        of("c", "l0", "A=B;B=C;C=c?;").by(2, "", "");
        of("aba", "ha1", "A=B*;B=ab?;").by(2, "a", "ab", "", "a");
        of("aab", "hb1", "A=B*;B=ab?;").by(2, "ab", "a", "ab", "", "a");
        of("abab", "ha2", "A=B*;B=ab?;").by(2, "aa", "ab", "ab", "aba", "aa");
        of("((a))", "h(1", NESTED).by(2, "()", "", "()");
        of("((a))", "h(2", NESTED).by(2, "(())", "", "()", "()", "(())");
        of("(a)a", "ha1", "A=B*;B=a/(C);C=a;").by(2, "(a)", "(a)", "", "()");
    }

    /** A node that was kept in an earlier reduction, or in an earlier round of kind 3, is not kept for that. */
    private void levelsAnew() {
        ShrinkDesk desk = Hand.desk("abab", "l4", "A=B*;B=ab?;");
        desk.reduce(2, 400);
        due.is("all stays: counts", Hand.counts(desk), "3 1 1 0 3");
        Hand.mark(desk, "ha1", false);
        desk.remember(false);
        // Now just ab, the empty text and a: below the second B, which goes, nothing is left out.
        due.is("reduce(2, 400) to a", desk.reduce(2, 400), 1);
        due.is("counts then", Hand.counts(desk), "6 1 2 0 0");
        String wrong = "ha1;hb1;&;ha1;hb1;|;!;|;hc1;&";
        of("abcb", wrong, "A=B*;B=ab?/cb?;").by(3, "c", "ab", "cb", "abc", "ac", "ab", "c", "", "");
    }

    /** "(as they were in the beginning)": what is left is not parsed anew between two depths. */
    private void levelsAsInTheBeginning() {
        of("cab", "ha1;hc1;hb1;!;|;&", "A=B*;B=aC?/c;C=b;").by(2, "ca", "c", "ab", "ca");
        of("-ab", "ha1", "A=-B;B=aC;C=b;").by(2, "-a", "-", "-a");
        // Without its b the text does not parse; the third depth is gone through all the same.
        of("abcd", "l4;l3;hb1;!;&;|", "A=aBC;B=b;C=cD;D=dE;E=;").by(2, "acd", "ab", "acd", "a", "ac", "acd");
    }

    /** 59 nodes of one depth: those without characters go, and those with one stay. */
    private void manyUnits() {
        String grammar = "A=B*" + "C".repeat(27) + ";B=a;C=;";
        ShrinkDesk desk = Hand.desk("a".repeat(32), "l32", grammar);
        due.is("nodes() of " + grammar, desk.nodes(), 60);
        due.is("reduce(2, 400) of 59 units", desk.reduce(2, 400), 32);
        due.is("it had probes enough", desk.count(3), 0);
        ShrinkDesk last = Hand.desk("a".repeat(31) + "b", "hb1", "A=B*D" + "C".repeat(27) + ";B=a;C=;D=b;");
        due.is("nodes() with a D", last.nodes(), 60);
        due.is("reduce(2, 400) to the one D", last.reduce(2, 400), 1);
        due.is("its text", Hand.text(last), "b");
    }

    /** "3: like 2, again and again as long as the text got shorter by that and still parses." */
    private void againAndAgain() {
        of("ab", "l2", "A=B*;B=a/b;").by(3, "ab", "a", "b");
        of("cab", "ha1;hc1;hb1;!;|;&", "A=B*;B=aC?/c;C=b;").by(3, "a", "c", "ab", "ca", "c", "a", "", "");
        of("-ab", "ha1", "A=-B;B=aC;C=b;").by(3, "-a", "-", "-a");
        of("aa", "l0", "A=B*;B=a;").by(3, "", "a", "");
        of("aa", "l0", "A=B;B=a*;").by(3, "", "", "");
        of("aa", "l0", "A=B;B=a+;").by(3, "", "");
        of("aa", "l0", "A=BC;B=a*;C=;").by(3, "", "aa", "", "", "");
    }

    /** "if it is loose and has characters"; "with fewer characters": so none of these has a move. */
    private void movesOfNoCharacters() {
        of("", "l0", "A=;").by(4, "");
        of("", "l0", "A=B?;B=;").by(4, "");
        of("", "l0", "A=B+B?B*;B=;").by(4, "");
        of("", "l0", "A=B;B=C?;C=;").by(4, "");
        of("a", "l0", "A=B?a;B=b?;").by(4, "a");
        of("a", "l0", "A=a;").by(4, "a");
    }

    /** "A node is LOOSE if its item has ? or * behind it, or + and was taken twice or more there." */
    private void looseMoves() {
        of("a", "ha1", "A=a?;").by(4, "a", "");
        of("a", "ha1", "A=a*;").by(4, "a", "");
        of("a", "l0", "A=a+/;").by(4, "a");
        of("aa", "l0", "A=a+/;").by(4, "a", "a");
        of("aa", "ha2", "A=a+/;").by(4, "aa", "a", "a");
        of("a", "l0", "A=a/;").by(4, "a");
        of("a", "l0", "A=B/;B=a;").by(4, "a");
        of("a", "ha1", "A=B?;B=a;").by(4, "a", "");
        of("a", "l0", "A=B+/;B=a;").by(4, "a");
        of("ab", "l2", "A=a*b?;").by(4, "ab", "b", "a");
    }

    /** "then for all nodes below it, by number, of a rule and of the same rule as it" */
    private void movesToWhatIsBelow() {
        of("(a)", "ha1", "A=(A)/a;").by(4, "a", "a");
        of("(a)", "l3", "A=(A)/a;").by(4, "(a)", "a");
        of("(a)", "l1", "A=(B)/a;B=a;").by(4, "(a)");
        of("(-a)", "l4", "A=(B)/a;B=-A;").by(4, "(-a)", "a");
        of("(())", "l4", "A=(A)/;").by(4, "(())", "()", "", "()");
        of("(())", "l1", "A=(A)/;").by(4, "()", "()", "");
        of("(())", "l0", "A=(A)/;").by(4, "", "()", "");
        of("(a-b)", "l5", "A=(A-A)/a/b;").by(4, "(a-b)", "a", "b");
        of("((a-b)-a)", "l9", "A=(A-A)/a/b;").by(4, "((a-b)-a)", "(a-b)", "a", "b", "a", "(a-a)", "(b-a)");
        of("((a-b)-a)", "hb1", "A=(A-A)/a/b;").by(4, "b", "(a-b)", "a", "b");
    }

    /** "those with more characters first, of several with as many the one with the lesser number first" */
    private void orderOfMoves() {
        of("(aa)a", "l5", NESTED).by(4, "(aa)a", "aa", "a", "aa", "aa", "(a)a", "(a)a", "(aa)");
        of("abbc", "l4", "A=a?B?c?;B=b*;").by(4, "abbc", "ac", "bbc", "abc", "abc", "abb");
        of("a(a)", "l4", NESTED).by(4, "a(a)", "a", "a", "aa", "(a)", "a()");
        of("abc", "l3", "A=a?b?c?;").by(4, "abc", "bc", "ac", "ab");
    }

    /** "4: as long as one of these moves is taken": with the tree of the new text, from its first node on. */
    private void anewAfterAMove() {
        of("abc", "hc1", "A=a?b?c?;").by(4, "c", "bc", "c", "");
        of("abc", "ha1", "A=a?b?c?;").by(4, "a", "bc", "ac", "c", "a", "");
        of("(a)(a)", "h(1", NESTED).by(4, "()", "a", "a", "(a)", "a", "", "a", "()", "", "");
        of("aab", "hb1;ha1;!;l3;|;&", "A=B/b;B=a*b;").by(4, "aab", "ab", "ab");
        of("aab", "hb1", "A=B/b;B=a*b;").by(4, "b", "ab", "b");
    }

    /** "(One that does not parse is not asked for.)" */
    private void movesThatDoNotParse() {
        of("ababc", "ha1", "A=B?C;B=ab;C=abc;").by(4, "ababc");
        of("aba", "l3", "A=a*b?a;").by(4, "aba", "ba");
        of("aba", "l0", "A=a*b?a;").by(4, "ba", "ba");
        of("ab", "l0", "A=a?b/;").by(4, "b", "b");
    }

    /** "and the tree has at most 60 nodes": without its b the text has a tree of 59, 60, 61 or 62. */
    private void movesToMoreNodesThanMayBe() {
        onlyWithoutB(28, "A=c*b?c/D*;D=c?;", 0);
        onlyWithoutB(28, "A=c*b?c/D*F;D=c?;F=;", 0);
        onlyWithoutB(29, "A=c*b?c/D*;D=c?;", 31);
        onlyWithoutB(29, "A=c*b?c/D*F;D=c?;F=;", 31);
    }

    private void onlyWithoutB(int signs, String grammar, int length) {
        String text = "c".repeat(signs) + "bc";
        ShrinkDesk desk = Hand.desk(text, "l" + text.length() + ";hb1;!;|", grammar);
        due.is("reduce(4, 400) of " + text + " by " + grammar, desk.reduce(4, 400), length);
        if (length > 0) {
            due.is("its counts: just without one c", Hand.counts(desk), "1 " + (signs - 1) + " 1 0 1");
        }
    }

    /** "whenever a text with outcome 1 is asked for and taken, it is the typed text from then on" */
    private void takenTexts() {
        for (int kind = 0; kind < 5; kind++) {
            if (kind != 1) {
                due.is("kind " + kind + " to none", Hand.text(after(kind, "aaa", "l0", "A=a*;")), "");
                due.is("kind " + kind + " to one", Hand.text(after(kind, "aaa", "ha1", "A=a*;")), "a");
                due.is("kind " + kind + " to all", Hand.text(after(kind, "aaa", "l3", "A=a*;")), "aaa");
            }
            ShrinkDesk unclear = Hand.desk("aaa", "l3", "A=a*;");
            Hand.mark(unclear, "l1", true);
            due.is("kind " + kind + ": outcome 2 is not taken", unclear.reduce(kind, 400), 3);
            ShrinkDesk typed = after(kind, "aaa", "ha1", "A=a*;");
            int length = typed.length();
            due.is("kind " + kind + ": type behind what is left", typed.type('b'), true);
            due.is("kind " + kind + ": text then", Hand.text(typed), "a".repeat(length) + "b");
        }
    }

    /** "-1 when kind is not 0 .. 4 or probes not 0 .. 400" */
    private void kindsAndProbes() {
        for (int kind = -2; kind <= 6; kind++) {
            boolean known = kind >= 0 && kind <= 4;
            due.is("reduce(" + kind + ", 0)", Hand.desk("a", "l1", "A=a;").reduce(kind, 0), known ? 1 : -1);
            due.is("reduce(" + kind + ", 400)", Hand.desk("a", "l1", "A=a;").reduce(kind, 400), known ? 1 : -1);
            due.is("reduce(" + kind + ", -1)", Hand.desk("a", "l1", "A=a;").reduce(kind, -1), -1);
            due.is("reduce(" + kind + ", 401)", Hand.desk("a", "l1", "A=a;").reduce(kind, 401), -1);
        }
        int[] far = {Integer.MIN_VALUE, -1000, 1000, 65536, Integer.MAX_VALUE};
        for (int number : far) {
            due.is("reduce(" + number + ", 9)", Hand.desk("a", "l1").reduce(number, 9), -1);
            due.is("reduce(0, " + number + ")", Hand.desk("a", "l1").reduce(0, number), -1);
        }
    }

    /** "(of several the one named first)" */
    private void firstNamed() {
        for (int kind = -1; kind <= 5; kind++) {
            boolean known = kind >= 0 && kind <= 4;
            boolean tree = kind >= 2;
            String call = "reduce(" + kind + ", 9)";
            due.is(call + ": outcome 0", Hand.desk("a", "hb1", "A=a;").reduce(kind, 9), known ? -2 : -1);
            due.is(call + ": outcome 0, no grammar", Hand.desk("a", "hb1").reduce(kind, 9), known ? -2 : -1);
            due.is(call + ": outcome 0, no parse", Hand.desk("a", "hb1", "A=b;").reduce(kind, 9), known ? -2 : -1);
            due.is(call + ": no grammar", Hand.desk("a", "ha1").reduce(kind, 9), !known ? -1 : tree ? -3 : 1);
            due.is(call + ": no parse", Hand.desk("a", "ha1", "A=b;").reduce(kind, 9), !known ? -1 : tree ? -3 : 1);
            due.is(call + ": empty, no parse", Hand.desk("", "l0", "A=b;").reduce(kind, 9), !known ? -1 : tree ? -3 : 0);
            due.is(call + ": empty, no grammar", Hand.desk("", "l0").reduce(kind, 9), !known ? -1 : tree ? -3 : 0);
            due.is(call + ": empty, parses", Hand.desk("", "l0", "A=;").reduce(kind, 9), known ? 0 : -1);
        }
        due.is("reduce(2, 401): outcome 0, no grammar", new ShrinkDesk().reduce(2, 401), -1);
        due.is("reduce(2, -1): outcome 1, no grammar", Hand.desk("a", "ha1").reduce(2, -1), -1);
    }

    /** "-3 when .. the text does not parse": with 61 nodes it does not. */
    private void sixtyNodes() {
        String sixty = "A=B*C;B=a?;C=;";
        String more = "A=B*CC;B=a?;C=;";
        for (int kind = 2; kind <= 4; kind++) {
            due.is("kind " + kind + ", 60 nodes", Hand.desk("a".repeat(29), "l29", sixty).reduce(kind, 400), 29);
            due.is("kind " + kind + ", 61 nodes", Hand.desk("a".repeat(29), "l29", more).reduce(kind, 400), -3);
            due.is("kind " + kind + ", 62 nodes", Hand.desk("a".repeat(30), "l29", sixty).reduce(kind, 400), -3);
        }
    }
}
