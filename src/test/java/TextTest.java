/** Promises 2 type, 3 clear, 18 length and 19 at. */
public final class TextTest {
    public static void main(String[] args) {
        Due due = new Due("TextTest");
        everyCharacter(due);
        limit(due);
        clear(due);
        places(due);
        due.end();
    }

    private static void everyCharacter(Due due) {
        int taken = 0;
        for (int c = 0; c < 65536; c++) {
            ShrinkDesk desk = new ShrinkDesk();
            boolean isText = Hand.TEXT_SIGNS.indexOf(c) >= 0;
            due.is("type((char) " + c + ")", desk.type((char) c), isText);
            due.is("length() after type((char) " + c + ")", desk.length(), isText ? 1 : 0);
            due.is("at(0) after type((char) " + c + ")", desk.at(0), isText ? c : 0);
            taken += isText ? 1 : 0;
            if (c == 300) {
                c = 65279;
            }
        }
        due.is("characters of a text", taken, 26 + 10 + 5);
    }

    private static void limit(Due due) {
        ShrinkDesk desk = new ShrinkDesk();
        for (int i = 0; i < 32; i++) {
            due.is("type as number " + i, desk.type((char) ('a' + i % 26)), true);
        }
        due.is("type as number 32", desk.type('z'), false);
        due.is("type as number 32 again", desk.type(' '), false);
        due.is("length() of a full text", desk.length(), 32);
        due.is("full text", Hand.text(desk), "abcdefghijklmnopqrstuvwxyzabcdef");
        due.is("at(31)", desk.at(31), 'f');
        due.is("at(32)", desk.at(32), 0);
    }

    private static void clear(Due due) {
        ShrinkDesk desk = Hand.desk("abc", "ha1", "A=abc;");
        desk.clear();
        due.is("length() after clear()", desk.length(), 0);
        due.is("at(0) after clear()", desk.at(0), 0);
        due.is("outcome() after clear()", desk.outcome(), 0);
        due.is("nodes() after clear()", desk.nodes(), 0);
        Hand.type(desk, "abc");
        due.is("outcome() as typed again: the mark stays", desk.outcome(), 1);
        due.is("nodes() as typed again: the grammar stays", desk.nodes(), 1);
        Hand.retype(desk, "0123456789 ,-()0123456789 ,-()12");
        desk.clear();
        due.is("type after clear() of a full text", desk.type('q'), true);
        due.is("text then", Hand.text(desk), "q");
        desk.clear();
        desk.clear();
        due.is("length() after clear() twice", desk.length(), 0);
    }

    private static void places(Due due) {
        ShrinkDesk desk = new ShrinkDesk();
        Hand.type(desk, "a,-( )9");
        due.is("length()", desk.length(), 7);
        for (int i = 0; i < 7; i++) {
            due.is("at(" + i + ")", desk.at(i), "a,-( )9".charAt(i));
        }
        int[] outside = {-1, 7, 8, 31, 32, 33, 1000, Integer.MIN_VALUE, Integer.MAX_VALUE};
        for (int i : outside) {
            due.is("at(" + i + ")", desk.at(i), 0);
        }
        Hand.mark(desk, "h(1", false);
        desk.reduce(0, 400);
        due.is("length() after reduce", desk.length(), 1);
        due.is("at(0) after reduce", desk.at(0), '(');
        due.is("at(1) after reduce: nothing of the longer text", desk.at(1), 0);
        due.is("type after reduce", desk.type('b'), true);
        due.is("text after reduce and type", Hand.text(desk), "(b");
    }
}
