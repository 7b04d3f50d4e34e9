/** "LESSENING some UNITS": every text that is asked for, at each boundary that its sentences name. */
public final class LessenTest {
    private final Due due = new Due("LessenTest");

    public static void main(String[] args) {
        LessenTest test = new LessenTest();
        test.noUnit();
        test.oneUnit();
        test.twoUnits();
        test.onePartIsKept();
        test.roundedDown();
        test.doubledOrM();
        test.withoutAPart();
        test.oneLess();
        test.firstOfSeveral();
        test.just32();
        test.due.end();
    }

    private void characters(String text, String wrong, String result, String... asked) {
        new Asked(due, text, wrong, null).by(0, result, asked);
    }

    /** "As long as m is above 0" */
    private void noUnit() {
        characters("", "l0", "");
        characters("", "e", "");
    }

    /** "n be 2, or 1 if m is 1"; (1) is just for an n of 2 or more; "when n is m, it is done". */
    private void oneUnit() {
        characters("a", "ha1", "a", "");
        characters("a", "l0", "", "");
    }

    /** (2) is not for an n of 2: no part is left out, as the other one alone was asked for. */
    private void twoUnits() {
        characters("ab", "l2", "ab", "a", "b");
        characters("ab", "ha1", "a", "a", "");
        characters("ab", "hb1", "b", "a", "b", "");
        characters("ab", "l1", "a", "a", "");
        characters("ab", "l0", "", "a", "");
        characters("ab", "e", "ab", "a", "b");
    }

    /** "just part i is kept from now on, n is 2, or 1 if m is 1 now, and it begins anew" */
    private void onePartIsKept() {
        characters("abcd", "ha1", "a", "ab", "a", "");
        characters("abcd", "hd1", "d", "ab", "cd", "c", "d", "");
        characters("abcd", "ha1;hb1;&", "ab", "ab", "a", "b");
        characters("abc", "hb1;hc1;&", "bc", "a", "bc", "b", "c");
        characters("abcd", "l3;hb1;l1;!;|;|", "", "ab", "a", "b", "");
        // Part 1 of 4 goes wrong, which none of the 2 did: from then on n is 1, not 4.
        characters("abcd", "l4;l1;!;|;l2;!;hb1;&;|", "", "ab", "cd", "a", "b", "");
        // Part 1 of 4 has two units, and n is 2 again: each of them is asked for, and none without it.
        characters("abcdefg", "l7;nbc;l3;!;&;|", "bc", "abc", "defg", "a", "bc", "b", "c");
        characters("abcdefgh", "l8;ncd;l3;!;&;|", "cd", "abcd", "efgh", "ab", "cd", "c", "d");
    }

    /** "from the (i * m / n)-th one (rounded down, counted from 0) to the one before the ((i + 1) * m / n)-th" */
    private void roundedDown() {
        characters("abc", "l3", "abc", "a", "bc", "a", "b", "c", "bc", "ac", "ab");
        characters("abcde", "l5", "abcde", "ab", "cde", "a", "b", "c", "de", "bcde", "acde", "abde", "abc",
            "a", "b", "c", "d", "e", "bcde", "acde", "abde", "abce", "abcd");
        characters("abcdefg", "ha1;hd1;&;he1;&;hf1;hg1;&;&", "adefg", "abc", "defg", "a", "bc", "de", "fg",
            "bcdefg", "adefg", "a", "de", "fg", "defg", "afg", "ade",
            "a", "d", "e", "f", "g", "defg", "aefg", "adfg", "adeg", "adef");
    }

    /** "when n is m, it is done; otherwise n is 2 * n, or m if that is less" */
    private void doubledOrM() {
        characters("abcd", "l4", "abcd", "ab", "cd", "a", "b", "c", "d", "bcd", "acd", "abd", "abc");
        characters("abcdef", "l6", "abcdef", "abc", "def", "a", "bc", "d", "ef", "bcdef", "adef", "abcef", "abcd",
            "a", "b", "c", "d", "e", "f", "bcdef", "acdef", "abdef", "abcef", "abcdf", "abcde");
    }

    /** "(2) If that never was so and n is not 2": just when no part alone goes wrong, and part by part. */
    private void withoutAPart() {
        characters("abc", "ha1;hc1;&", "ac", "a", "bc", "a", "b", "c", "bc", "ac", "a", "c");
        characters("abcd", "hb1;hc1;hd1;&;&", "bcd", "ab", "cd", "a", "b", "c", "d", "bcd",
            "b", "c", "d", "cd", "bd", "bc");
        characters("abcd", "ha1;hb1;hc1;&;&", "abc", "ab", "cd", "a", "b", "c", "d", "bcd", "acd", "abd", "abc",
            "a", "b", "c", "bc", "ac", "ab");
        characters("abc", "l3;hb1;l2;!;&;|", "b", "a", "bc", "a", "b", "");
    }

    /** "part i is not kept any more, n is 1 less, but 2 at least, and m at most, and it begins anew" */
    private void oneLess() {
        // From 3 to 2: the rest is cut into 2, so nothing is asked for without a part.
        characters("abc", "ha1;hb1;&", "ab", "a", "bc", "a", "b", "c", "bc", "ac", "ab", "a", "b");
        // From 4 to 3, with 3 units left.
        characters("abcd", "ha1;hc1;hd1;&;&", "acd", "ab", "cd", "a", "b", "c", "d", "bcd", "acd",
            "a", "c", "d", "cd", "ad", "ac");
        // From 4 to 3, with 6 units left: 3 parts of two, then 6.
        characters("abcdefgh", "ha1;hb1;&;he1;hf1;&;&;hg1;hh1;&;&", "abefgh",
            "abcd", "efgh", "ab", "cd", "ef", "gh", "cdefgh", "abefgh", "ab", "ef", "gh", "efgh", "abgh", "abef",
            "a", "b", "e", "f", "g", "h", "befgh", "aefgh", "abfgh", "abegh", "abefh", "abefg");
        // From 4 to 3, with 6 units left, to 2, with 4 units left: 2 parts of two.
        characters("abcdefgh", "ha1;hb1;&;hg1;hh1;&;&", "abgh",
            "abcd", "efgh", "ab", "cd", "ef", "gh", "cdefgh", "abefgh", "ab", "ef", "gh", "efgh", "abgh",
            "ab", "gh", "a", "b", "g", "h", "bgh", "agh", "abh", "abg");
        // From 4 to 3 to 2: each time it begins anew with the first part.
        characters("abcd", "ha1;hd1;&", "ad", "ab", "cd", "a", "b", "c", "d", "bcd", "acd",
            "a", "c", "d", "cd", "ad", "a", "d");
        // From 1: no unit is kept any more.
        characters("ab", "l2;l1;!;|;ha1;|", "", "a", "");
    }

    /** "for i = 0, 1, ..": of several parts that would go wrong the first one is taken. */
    private void firstOfSeveral() {
        characters("abcd", "l1", "a", "ab", "a", "");
        characters("abc", "l2;ha1;&", "ac", "a", "bc", "a", "b", "c", "bc", "ac", "a", "c");
        characters("abcd", "l3;nab;&", "abd", "ab", "cd", "a", "b", "c", "d", "bcd", "acd", "abd",
            "a", "b", "d", "bd", "ad", "ab");
    }

    private void just32() {
        String text = "abcdefghijklmnop0123456789 ,-()a";
        ShrinkDesk desk = Hand.desk(text, "l32");
        due.is("reduce(0, 400) of 32", desk.reduce(0, 400), 32);
        due.is("its text", Hand.text(desk), text);
        // 2 halves, then each and all but each of 4, 8, 16 and 32; of the 24 latest none comes again.
        desk.remember(false);
        int before = desk.count(0);
        desk.reduce(0, 400);
        due.is("probes for 32 that stay", desk.count(0) - before, 2 + 2 * (4 + 8 + 16 + 32));
        ShrinkDesk none = Hand.desk(text, "l0");
        due.is("reduce(0, 400) of 32 to none", none.reduce(0, 400), 0);
        due.is("its counts", Hand.counts(none), "6 0 1 0 6");
        ShrinkDesk last = Hand.desk(text, "h)1");
        due.is("reduce(0, 400) of 32 to the last but one", last.reduce(0, 400), 1);
        due.is("its text", Hand.text(last), ")");
    }
}
