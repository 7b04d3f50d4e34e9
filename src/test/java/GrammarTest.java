/** Promises 4 write and 5 read. */
public final class GrammarTest {
    public static void main(String[] args) {
        Due due = new Due("GrammarTest");
        everyCharacter(due);
        limit(due);
        good(due);
        wronglyCut(due);
        wrongNames(due);
        leading(due);
        replaced(due);
        manyTimes(due);
        due.end();
    }

    private static void everyCharacter(Due due) {
        int taken = 0;
        for (int c = 0; c <= 300; c++) {
            boolean isSign = Hand.GRAMMAR_SIGNS.indexOf(c) >= 0;
            due.is("write((char) " + c + ")", new ShrinkDesk().write((char) c), isSign);
            taken += isSign ? 1 : 0;
        }
        due.is("characters of a grammar", taken, 41 + 6 + 6);
        due.is("write((char) 65535)", new ShrinkDesk().write((char) 65535), false);
        ShrinkDesk desk = new ShrinkDesk();
        due.is("write G in between", Hand.write(desk, "A=Ga;"), false);
        due.is("read(): G was not put behind", desk.read(), 1);
        Hand.type(desk, "a");
        due.is("tree", Hand.tree(desk), "A[0:a]");
    }

    private static void limit(Due due) {
        String full = "A=" + "a".repeat(57) + ";";
        ShrinkDesk desk = new ShrinkDesk();
        due.is("write 60", Hand.write(desk, full), true);
        due.is("write one more", desk.write(';'), false);
        due.is("write one more again", desk.write('a'), false);
        due.is("read() of 60", desk.read(), 1);
        due.is("write after read()", Hand.write(desk, full), true);
        due.is("write the 61st", desk.write('a'), false);
        due.is("read() of 60 again", desk.read(), 1);
        String rows = "A=" + "/".repeat(57) + ";";
        due.is("58 alternatives", Hand.read(desk, rows), 1);
        due.is("nodes() by the first of them", desk.nodes(), 1);
        due.is("60 without an end", Hand.read(desk, "A=" + "a".repeat(58)), -1);
        due.is("61: the ; is not put behind", Hand.read(desk, "A=" + "a".repeat(58) + ";"), -1);
    }

    private static void good(Due due) {
        reads(due, "A=;", 1);
        reads(due, "F=;", 1);
        reads(due, "A=/;", 1);
        reads(due, "A=//a//;", 1);
        reads(due, "A=a;", 1);
        reads(due, "A=a?b*c+;", 1);
        reads(due, "A=( )-,9z;", 1);
        reads(due, "A= * ?;", 1);
        reads(due, "A=B;B=;", 2);
        reads(due, "B=A;A=;", 2);
        reads(due, "A=a;B=b;", 2);
        reads(due, "A=B;B=C;C=D;D=E;E=F;F=a;", 6);
        reads(due, "F=E;E=D;D=C;C=B;B=A;A=a;", 6);
        reads(due, "A=aA/;", 1);
        reads(due, "A=aB;B=bA/A?;", 2);
        reads(due, "A=aB;B=bA/a;", 2);
    }

    private static void wronglyCut(Due due) {
        String[] wrong = {
            "", ";", "A", "A=", "A=a", "A;", "=a;", "a=b;", "A=a;;", "A=a;B", "A=a;B=", "A=a;B=b",
            "A==;", "A=a=b;", "A=B=b;", "A=?;", "A=*a;", "A=+;", "A=a??;", "A=a*+;", "A=a+*;", "A=a/?;",
            "A=a/*b;", "AB=a;", "A=a;b=a;", "A=a; B=b;", " A=a;", "A =a;", "A=a; ", "A/B;", "A?=a;",
            "A=a;?", "A=a;/", "A=a;=", "/", "A=/", "A=a?;B=b+?;", "/A=a;", "?A=a;",
        };
        for (String grammar : wrong) {
            reads(due, grammar, -1);
        }
    }

    private static void wrongNames(Due due) {
        reads(due, "A=B;", -1);
        reads(due, "A=aB?;", -1);
        reads(due, "A=a/b/cF*;", -1);
        reads(due, "A=a;A=b;", -1);
        reads(due, "A=a;B=b;A=c;", -1);
        reads(due, "A=a;B=b;C=c;D=d;E=e;F=f;", 6);
        reads(due, "A=a;B=b;C=c;D=d;E=e;F=f;A=;", -1);
        reads(due, "A=a;B=C;", -1);
    }

    private static void leading(Due due) {
        reads(due, "A=A;", -1);
        reads(due, "A=A?;", -1);
        reads(due, "A=A*b;", -1);
        reads(due, "A=A+b;", -1);
        reads(due, "A=b/Ab;", -1);
        reads(due, "A=b?A;", -1);
        reads(due, "A=b*A;", -1);
        reads(due, "A=b+A/;", 1);
        reads(due, "A=b?c*A?/d;", -1);
        reads(due, "A=b?cA/d;", 1);
        reads(due, "A=B;B=A;", -1);
        reads(due, "A=a;B=B;", -1);
        reads(due, "A=B;B=C;C=D;D=E;E=F;F=A;", -1);
        reads(due, "A=B;B=C;C=D;D=E;E=F;F=aA;", 6);
        reads(due, "A=BA/a;B=b;", 2);
        reads(due, "A=BA/a;B=b/;", -1);
        reads(due, "A=BA/a;B=b?;", -1);
        reads(due, "A=B?A/a;B=b;", -1);
        reads(due, "A=B*A/a;B=b;", -1);
        reads(due, "A=B+A/a;B=b;", 2);
        reads(due, "A=B+A/a;B=b*;", -1);
        reads(due, "A=BA;B=C;C=D+;D=E?;E=e;", -1);
        reads(due, "A=BA;B=C;C=D+;D=E;E=e;", 5);
        reads(due, "A=BA;B=C;C=cD+;D=E?;E=e;", 5);
        reads(due, "A=BCa;B=b;C=A;", 3);
        reads(due, "A=BCa;B=;C=A;", -1);
        reads(due, "A=a;B=CD;C=D?;D=B;", -1);
        reads(due, "A=aA?A?;", 1);
        reads(due, "A=BB;B=b?A;", -1);
        reads(due, "A=B;B=aC;C=A?;", 3);
        reads(due, "B=AB;A=;", -1);
        reads(due, "B=AB/b;A=a;", 2);
        reads(due, "A=b?;B=A;", 2);
    }

    private static void replaced(Due due) {
        ShrinkDesk desk = new ShrinkDesk();
        Hand.type(desk, "ab");
        due.is("read()", Hand.read(desk, "A=a*b;"), 1);
        due.is("tree", Hand.tree(desk), "A[0:ab].'[1:a]");
        Hand.write(desk, "B=ab?;");
        due.is("tree before read()", Hand.tree(desk), "A[0:ab].'[1:a]");
        due.is("read() of another", desk.read(), 1);
        due.is("tree by another", Hand.tree(desk), "B[0:ab].'[1:b]");
        due.is("read() without anything written", desk.read(), -1);
        due.is("nodes() without a grammar", desk.nodes(), -1);
        due.is("node(0) without a grammar", desk.node(0), -1);
        due.is("depth(0) without a grammar", desk.depth(0), -1);
        due.is("read() after that", Hand.read(desk, "C=ab;"), 1);
        due.is("read() of a wrong one", Hand.read(desk, "C=ab;A"), -1);
        due.is("nodes() after a wrong one", desk.nodes(), -1);
        Hand.write(desk, "A=a");
        Hand.write(desk, "b;");
        due.is("read(): nothing of the wrong one was left", desk.read(), 1);
        due.is("tree then", Hand.tree(desk), "A[0:ab]");
        due.is("read() of one that leads back", Hand.read(desk, "A=Bc;B=A;"), -1);
        due.is("nodes() after one that leads back", desk.nodes(), -1);
        due.is("text is not touched", Hand.text(desk), "ab");
    }

    /** Nothing of an earlier grammar counts for a later one, and nothing of it takes up room. */
    private static void manyTimes(Due due) {
        ShrinkDesk desk = new ShrinkDesk();
        due.is("read() with B emptiable", Hand.read(desk, "A=BA/a;B=b?;"), -1);
        due.is("read() with B not emptiable", Hand.read(desk, "A=BA/a;B=b;"), 2);
        due.is("read() without B", Hand.read(desk, "A=Ba;"), -1);
        for (int i = 0; i < 40; i++) {
            due.is("read() number " + i, Hand.read(desk, "A=ab/a/;"), 1);
            Hand.type(desk, "a");
            due.is("nodes() number " + i, desk.nodes(), 1);
            desk.clear();
        }
    }

    private static void reads(Due due, String grammar, int want) {
        ShrinkDesk desk = new ShrinkDesk();
        due.is("write " + grammar, Hand.write(desk, grammar), true);
        due.is("read() of " + grammar, desk.read(), want);
        due.is("a grammar after " + grammar, desk.nodes() >= 0, want >= 0);
    }
}
