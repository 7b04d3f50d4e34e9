/** "ASKING for a text": what is remembered, what is a hit and what a probe, and when a reduction ends. */
public final class AskingTest {
    private static final String SIGNS = "abcdefghijklmnopqrstuvwx";

    private final Due due = new Due("AskingTest");

    public static void main(String[] args) {
        AskingTest test = new AskingTest();
        test.onAtFirst();
        test.upTo24();
        test.rememberedLongest();
        test.rememberedLongestOfMany();
        test.hitsDoNotRenew();
        test.askedAgainAfterwards();
        test.fullAgainAfterForgetting();
        test.sameText();
        test.sameLongText();
        test.theTypedTextIsNotAsked();
        test.offAndOn();
        test.forgottenByMark();
        test.notForgottenByOthers();
        test.soManyProbes();
        test.upTo400();
        test.endsAtOnce();
        test.theLatest();
        test.outcomeIsNotAsked();
        test.which();
        test.in512Calls();
        test.due.end();
    }

    /** WRONG holds of texts of two characters or more, and of those with a z. */
    private static ShrinkDesk desk() {
        return Hand.desk("", "l2;hz1;|");
    }

    /** Asks for two texts of one character each, and for no other. */
    private static void ask(ShrinkDesk desk, char c, char d) {
        Hand.retype(desk, "" + c + d);
        desk.reduce(0, 400);
    }

    /** Asks for the first so many of 24 texts of one character each. */
    private static ShrinkDesk asked(int many) {
        ShrinkDesk desk = desk();
        for (int i = 0; i + 1 < many; i += 2) {
            ask(desk, SIGNS.charAt(i), SIGNS.charAt(i + 1));
        }
        if (many % 2 == 1) {
            Hand.retype(desk, SIGNS.substring(many - 1, many) + "a");
            desk.reduce(0, 1);
        }
        return desk;
    }

    private static String remembered(ShrinkDesk desk) {
        return remembered(desk, SIGNS + "y0123");
    }

    /** Which of some texts of one character are remembered; each look makes seven calls. */
    private static String remembered(ShrinkDesk desk, String among) {
        StringBuilder remembered = new StringBuilder();
        for (char c : among.toCharArray()) {
            if (Asked.isRemembered(desk, "" + c)) {
                remembered.append(c);
            }
        }
        return remembered.toString();
    }

    /** "if remembering is on (as it is at first)"; "nothing is remembered" */
    private void onAtFirst() {
        ShrinkDesk desk = desk();
        due.is("new: count(4)", desk.count(4), 0);
        due.is("new: the empty text is not remembered", Asked.isRemembered(desk, ""), false);
        ask(desk, 'a', 'b');
        due.is("count(4) after two", desk.count(4), 2);
        due.is("remembered", remembered(desk), "ab");
    }

    /** "Up to 24 texts are REMEMBERED" */
    private void upTo24() {
        for (int many = 0; many <= 24; many++) {
            ShrinkDesk desk = asked(many);
            due.is("count(4) after " + many, desk.count(4), many);
            due.is("count(0) after " + many, desk.count(0), many);
            due.is("remembered after " + many, remembered(desk), SIGNS.substring(0, many));
        }
        ShrinkDesk desk = asked(24);
        ask(desk, '0', '1');
        due.is("count(4) after 26", desk.count(4), 24);
    }

    /** "if there were 24, the one that has been remembered longest is not any more" */
    private void rememberedLongest() {
        ShrinkDesk one = asked(24);
        Hand.retype(one, "00");
        one.reduce(0, 1);
        due.is("remembered after 25", remembered(one), SIGNS.substring(1) + "0");
        due.is("count(4) after 25", one.count(4), 24);
        ShrinkDesk three = asked(24);
        ask(three, '0', '1');
        Hand.retype(three, "22");
        three.reduce(0, 1);
        due.is("remembered after 27", remembered(three), SIGNS.substring(3) + "012");
    }

    /** The same for many more texts than 24, among them some that were remembered before. */
    private void rememberedLongestOfMany() {
        String others = "y0123456789 ,-()";
        ShrinkDesk desk = asked(24);
        for (int i = 0; i < others.length(); i += 2) {
            ask(desk, others.charAt(i), others.charAt(i + 1));
        }
        due.is("remembered after 40", remembered(desk, "aop" + SIGNS.substring(16) + "y()"), "qrstuvwxy()");
        for (int i = 0; i < 8; i += 2) {
            ask(desk, SIGNS.charAt(i), SIGNS.charAt(i + 1));
        }
        due.is("remembered after 48", remembered(desk, "abghixy01()"), "abghy01()");
        ask(desk, 'i', 'j');
        due.is("remembered after 50", remembered(desk, "abijy012"), "abij12");
        due.is("counts after 50", Hand.counts(desk).startsWith("50 "), true);
        due.is("count(4) after 50", desk.count(4), 24);
    }

    /** A hit does not make a text one that has been remembered less long. */
    private void hitsDoNotRenew() {
        ShrinkDesk desk = asked(24);
        ask(desk, 'a', 'b');
        due.is("two hits", Hand.counts(desk), "24 2 13 0 24");
        Hand.retype(desk, "00");
        desk.reduce(0, 1);
        due.is("remembered: a is not any more", remembered(desk), SIGNS.substring(1) + "0");
    }

    /** A text that was not remembered any more is, as the latest one, when it is asked for again. */
    private void askedAgainAfterwards() {
        ShrinkDesk desk = asked(24);
        ask(desk, '0', '1');
        ask(desk, 'a', 'b');
        due.is("four probes more", Hand.counts(desk), "28 0 14 0 24");
        due.is("remembered", remembered(desk), "ab" + SIGNS.substring(4) + "01");
        for (int i = 4; i < 24; i += 2) {
            Hand.retype(desk, SIGNS.charAt(i) + "9");
            desk.reduce(0, 1);
        }
        due.is("a and b are still remembered", remembered(desk, "ab"), "ab");
    }

    /** After forgetting there is room for 24 again, and they go in the order in which they came. */
    private void fullAgainAfterForgetting() {
        for (int by = 0; by < 3; by++) {
            ShrinkDesk desk = asked(24);
            ask(desk, '0', '1');
            if (by == 0) {
                Hand.mark(desk, "l2;hz1;|", false);
            } else if (by == 1) {
                desk.remember(true);
            } else {
                desk.remember(false);
                desk.remember(true);
            }
            due.is("count(4) after forgetting", desk.count(4), 0);
            for (int i = 0; i < 24; i += 2) {
                ask(desk, SIGNS.charAt(i), SIGNS.charAt(i + 1));
                due.is("count(4) after " + (i + 2), desk.count(4), i + 2);
            }
            Hand.retype(desk, "00");
            desk.reduce(0, 1);
            due.is("remembered after 25 again", remembered(desk), SIGNS.substring(1) + "0");
        }
    }

    /** "to ask for one of these counts a HIT": one that begins or ends with it is another one. */
    private void sameText() {
        ShrinkDesk desk = Hand.desk("abab", "l4;hz1;|");
        desk.reduce(0, 1);
        due.is("ab is remembered", Asked.isRemembered(desk, "ab"), true);
        for (String other : new String[] {"", "a", "b", "ba", "aab", "abb", "ab ", " ab", "aa", "bb", "abab"}) {
            due.is("\"" + other + "\" is not", Asked.isRemembered(desk, other), false);
        }
        ShrinkDesk empty = Hand.desk("a", "ha1;hz1;|");
        empty.reduce(0, 1);
        due.is("counts with the empty text", Hand.counts(empty), "1 0 1 0 1");
        due.is("the empty text is remembered", Asked.isRemembered(empty, ""), true);
        due.is("a space is not", Asked.isRemembered(empty, " "), false);
        ShrinkDesk longest = Hand.desk("a".repeat(32), "l32;hz1;|");
        longest.reduce(0, 1);
        due.is("15 of 16 are not", Asked.isRemembered(longest, "a".repeat(15)), false);
        int hits = longest.count(1);
        Hand.retype(longest, "a".repeat(16) + "z".repeat(16));
        longest.reduce(0, 0);
        due.is("a hit by 16 as the half of 32", longest.count(1), hits + 1);
    }

    /** Each of the 31 or 32 characters counts, the first and the last one too. */
    private void sameLongText() {
        ShrinkDesk words = Hand.desk(" " + "a".repeat(31), "l32");
        words.reduce(1, 400);
        due.is("asked for a space and for 31", Hand.counts(words), "2 0 1 0 2");
        for (String other : new String[] {"a".repeat(30) + "b", "b" + "a".repeat(30), "a".repeat(15) + "b" + "a".repeat(15)}) {
            int hits = words.count(1);
            Hand.retype(words, " " + other);
            words.reduce(1, 0);
            due.is(other + " is not remembered", words.count(1) + " " + words.count(3), (hits + 1) + " 1");
        }
        Hand.retype(words, " " + "a".repeat(31));
        words.reduce(1, 0);
        due.is("31 are remembered", words.count(3), 0);
        String one = "a".repeat(31) + "b";
        String other = "a".repeat(31) + "c";
        ShrinkDesk full = Hand.desk(one, "l32", "A=" + one + "B;B=;");
        full.reduce(2, 400);
        due.is("asked for 32", Hand.counts(full), "1 0 1 0 1");
        Hand.read(full, "A=" + other + "B;B=;");
        Hand.retype(full, other);
        full.reduce(2, 0);
        due.is("another 32 are not remembered", Hand.counts(full), "1 0 2 1 1");
        Hand.read(full, "A=" + one + "B;B=;");
        Hand.retype(full, one);
        full.reduce(2, 0);
        due.is("32 are remembered", Hand.counts(full), "1 1 3 0 1");
    }

    /** "(it is not asked for)": neither by outcome() nor at the beginning of a reduction. */
    private void theTypedTextIsNotAsked() {
        ShrinkDesk desk = Hand.desk("ab", "l2;hz1;|");
        desk.reduce(0, 400);
        due.is("counts: just a and b", Hand.counts(desk), "2 0 1 0 2");
        due.is("ab is not remembered", Asked.isRemembered(desk, "ab"), false);
        due.is("counts of a reduction of nothing", Hand.counts(reduced("", "l0", 0)), "0 0 1 0 0");
    }

    private static ShrinkDesk reduced(String text, String wrong, int probes) {
        ShrinkDesk desk = Hand.desk(text, wrong);
        desk.reduce(0, probes);
        return desk;
    }

    /** "Remembering is on or off from now on; what is remembered is forgotten." */
    private void offAndOn() {
        ShrinkDesk desk = asked(4);
        desk.remember(false);
        due.is("off: count(4)", desk.count(4), 0);
        ask(desk, 'a', 'b');
        ask(desk, 'a', 'b');
        due.is("off: each is a probe", Hand.counts(desk), "8 0 4 0 0");
        due.is("off: remembered", remembered(desk), "");
        ShrinkDesk on = asked(4);
        on.remember(true);
        due.is("on, as it was: count(4)", on.count(4), 0);
        due.is("on, as it was: remembered", remembered(on), "");
        ShrinkDesk again = asked(4);
        again.remember(false);
        ask(again, 'a', 'b');
        again.remember(true);
        due.is("on again: count(4)", again.count(4), 0);
        ask(again, 'c', 'd');
        due.is("on again: remembered", remembered(again), "cd");
        again.remember(false);
        again.remember(false);
        due.is("off twice: count(4)", again.count(4), 0);
        due.is("off: a text that comes again in one reduction", Hand.counts(forgetful()), "8 0 1 0 0");
    }

    private static ShrinkDesk forgetful() {
        ShrinkDesk desk = Hand.desk("abc", "l3");
        desk.remember(false);
        desk.reduce(0, 400);
        return desk;
    }

    /** "(What is remembered is forgotten.)": by each mark that was taken, and by none that was refused. */
    private void forgottenByMark() {
        for (boolean unclear : new boolean[] {false, true}) {
            ShrinkDesk desk = asked(4);
            due.is("mark(" + unclear + ") of none", desk.mark(unclear), false);
            due.is("mark(" + unclear + ") of none: count(4)", desk.count(4), 4);
            due.is("mark(" + unclear + ") of none: remembered", remembered(desk), "abcd");
            Hand.put(desk, "l2;hz1;|");
            due.is("no term is marked: count(4)", desk.count(4), 4);
            due.is("mark(" + unclear + ")", desk.mark(unclear), true);
            due.is("mark(" + unclear + "): count(4)", desk.count(4), 0);
            due.is("mark(" + unclear + "): remembered", remembered(desk), "");
        }
    }

    private void notForgottenByOthers() {
        ShrinkDesk desk = asked(4);
        Hand.put(desk, "ha1;bab;nab;l3;e;!;&;|");
        Hand.read(desk, "A=a*;");
        Hand.read(desk, "A");
        desk.outcome();
        desk.nodes();
        desk.node(0);
        desk.depth(0);
        desk.at(0);
        desk.clear();
        due.is("remembered", remembered(desk), "abcd");
        due.is("count(4)", desk.count(4), 4);
    }

    /** "A reduction may make only so many probes; when it is to make one more, it ENDS at once." */
    private void soManyProbes() {
        // abcd that stays: ab, cd, a, b, c, d, bcd, acd, abd, abc.
        for (int probes = 0; probes <= 12; probes++) {
            ShrinkDesk desk = reduced("abcd", "l4", probes);
            String want = Math.min(probes, 10) + " 0 1 " + (probes < 10 ? 1 : 0) + " " + Math.min(probes, 10);
            due.is("counts by " + probes + " probes", Hand.counts(desk), want);
            due.is("length() by " + probes + " probes", desk.length(), 4);
        }
        ShrinkDesk hits = reduced("abcd", "l4", 400);
        due.is("reduce(0, 0) with hits alone", hits.reduce(0, 0), 4);
        due.is("counts: hits are no probes", Hand.counts(hits), "10 10 2 0 10");
        ShrinkDesk most = reduced("abcd", "l4", 9);
        due.is("reduce(0, 0) with nine hits", most.reduce(0, 0), 4);
        due.is("counts: it ends at the tenth", Hand.counts(most), "9 9 2 1 9");
        due.is("reduce(0, 1) with nine hits", most.reduce(0, 1), 4);
        due.is("counts: one probe is enough", Hand.counts(most), "10 18 3 0 10");
        due.is("reduce(0, 0) of nothing", Hand.counts(reduced("", "l0", 0)), "0 0 1 0 0");
        due.is("reduce(0, 0) of one", Hand.counts(reduced("a", "l0", 0)), "0 0 1 1 0");
        due.is("reduce(0, 1) of one", Hand.counts(reduced("a", "l0", 1)), "1 0 1 0 1");
        ShrinkDesk off = Hand.desk("abc", "l3");
        off.remember(false);
        off.reduce(0, 7);
        due.is("off: seven probes of eight", Hand.counts(off), "7 0 1 1 0");
        off.reduce(0, 8);
        due.is("off: eight probes of eight", Hand.counts(off), "15 0 2 0 0");
    }

    /** 479 probes are wanted: by 399, 400 and 79 more. */
    private void upTo400() {
        for (int probes = 399; probes <= 400; probes++) {
            ShrinkDesk desk = Hand.desk("b".repeat(9) + "a".repeat(23), "hb9");
            desk.remember(false);
            Hand.read(desk, "A=B*;B=a/D+;D=E?;E=b;");
            desk.reduce(4, probes);
            due.is("counts by " + probes, Hand.counts(desk), probes + " 0 1 1 0");
        }
        ShrinkDesk desk = Hand.desk("a".repeat(32), "l32");
        desk.remember(false);
        due.is("401 probes are refused", desk.reduce(0, 401), -1);
        desk.reduce(0, 121);
        due.is("counts by 121", Hand.counts(desk), "121 0 1 1 0");
        desk.reduce(0, 122);
        due.is("counts by 122", Hand.counts(desk), "243 0 2 0 0");
    }

    /** Nothing is asked for after the end, not even a text that would be a hit; what was taken stays. */
    private void endsAtOnce() {
        // abc that stays: a, bc, a, b, c, bc, ac, ab.
        due.is("abc by 2", Hand.counts(reduced("abc", "l3", 2)), "2 1 1 1 2");
        due.is("abc by 3", Hand.counts(reduced("abc", "l3", 3)), "3 1 1 1 3");
        due.is("abc by 4", Hand.counts(reduced("abc", "l3", 4)), "4 2 1 1 4");
        due.is("abc by 5", Hand.counts(reduced("abc", "l3", 5)), "5 2 1 1 5");
        due.is("abc by 6", Hand.counts(reduced("abc", "l3", 6)), "6 2 1 0 6");
        due.is("aaaa by 1", Hand.text(reduced("aaaa", "ha1", 1)), "aa");
        due.is("aaaa by 0", Hand.text(reduced("aaaa", "ha1", 0)), "aaaa");
        for (int kind = 2; kind <= 4; kind++) {
            ShrinkDesk desk = Hand.desk("(a)(a)", "h(1", "A=B*;B=a/(A);");
            due.is("kind " + kind + " by 1", desk.reduce(kind, 1), kind == 4 ? 6 : 3);
            int probes = desk.count(0);
            due.is("kind " + kind + " by 1: probes", probes, 1);
            due.is("kind " + kind + " by 1: ended", desk.count(3), 1);
        }
    }

    /** "whether the latest of these ended at once for want of probes (3)": of those that were not refused. */
    private void theLatest() {
        ShrinkDesk desk = reduced("abcd", "l4", 3);
        due.is("count(3)", desk.count(3), 1);
        due.is("count(2)", desk.count(2), 1);
        due.is("reduce(0, -1)", desk.reduce(0, -1), -1);
        due.is("reduce(0, 401)", desk.reduce(0, 401), -1);
        due.is("reduce(-1, 9)", desk.reduce(-1, 9), -1);
        due.is("reduce(5, 9)", desk.reduce(5, 9), -1);
        due.is("reduce(2, 9)", desk.reduce(2, 9), -3);
        desk.clear();
        due.is("reduce(0, 9)", desk.reduce(0, 9), -2);
        due.is("count(3) after refused ones", desk.count(3), 1);
        due.is("count(2) after refused ones", desk.count(2), 1);
        Hand.type(desk, "abcd");
        due.is("reduce(0, 400)", desk.reduce(0, 400), 4);
        due.is("count(3) after one that had enough", desk.count(3), 0);
        due.is("count(2) after one that had enough", desk.count(2), 2);
        due.is("reduce(0, 401)", desk.reduce(0, 401), -1);
        due.is("count(3) after a refused one", desk.count(3), 0);
        desk.remember(true);
        desk.reduce(0, 0);
        due.is("count(3) after one that had none", desk.count(3), 1);
        Hand.mark(desk, "l0", false);
        desk.clear();
        due.is("count(3) after mark and clear", desk.count(3), 1);
        due.is("reduce(0, 0) of nothing", desk.reduce(0, 0), 0);
        due.is("count(3) after one that asked for nothing", desk.count(3), 0);
        due.is("count(2)", desk.count(2), 4);
    }

    private void outcomeIsNotAsked() {
        ShrinkDesk desk = asked(2);
        String before = Hand.counts(desk);
        Hand.retype(desk, "a");
        due.is("outcome() of a remembered text", desk.outcome(), 0);
        Hand.retype(desk, "q");
        due.is("outcome() of another one", desk.outcome(), 0);
        due.is("counts", Hand.counts(desk), before);
        due.is("remembered", remembered(desk), "ab");
    }

    /** "-1 for any other number" */
    private void which() {
        ShrinkDesk desk = reduced("abcd", "l4", 3);
        int[] wanted = {-1, -1, 3, 0, 1, 1, 3, -1, -1};
        for (int i = 0; i < wanted.length; i++) {
            due.is("count(" + (i - 2) + ")", desk.count(i - 2), wanted[i]);
        }
        for (int other : new int[] {Integer.MIN_VALUE, -100, 100, 256, 65536, Integer.MAX_VALUE}) {
            due.is("count(" + other + ")", desk.count(other), -1);
        }
    }

    /** "An object is used for at most 512 calls after it has been made": the last one is answered too. */
    private void in512Calls() {
        ShrinkDesk probes = Hand.desk("a".repeat(32), "l32");
        probes.remember(false);
        for (int call = 36; call < 512; call++) {
            probes.reduce(0, 400);
        }
        due.is("count(0) as call 512", probes.count(0), 476 * 122);
        ShrinkDesk reductions = Hand.desk("", "l0");
        for (int call = 3; call < 512; call++) {
            reductions.reduce(0, 0);
        }
        due.is("count(2) as call 512", reductions.count(2), 509);
        ShrinkDesk hits = Hand.desk("ab", "l2");
        for (int call = 5; call < 512; call++) {
            hits.reduce(0, 2);
        }
        due.is("count(1) as call 512", hits.count(1), 506 * 2);
        ShrinkDesk terms = new ShrinkDesk();
        for (int call = 1; call < 510; call += 2) {
            terms.has(call < 508 ? 'b' : 'a', 1);
            terms.mark(false);
        }
        terms.type('a');
        due.is("outcome() as call 512", terms.outcome(), 1);
        // WRONG is NOT EVEN at last.
        ShrinkDesk nots = Hand.desk("a", "ha1;hb1");
        for (int call = 5; call + 3 < 512; call += 4) {
            nots.not();
            nots.join(true);
            nots.mark(call % 8 == 1);
            nots.size(-1);
        }
        due.is("outcome() after many terms", nots.outcome(), 1);
    }
}
