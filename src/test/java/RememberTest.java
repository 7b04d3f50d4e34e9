/** Promises 12 remember and, of 20, the probes, the hits and how many texts are remembered. */
public final class RememberTest {
    public static void main(String[] args) {
        Due due = new Due("RememberTest");
        onAndOff(due);
        byMark(due);
        byOtherCalls(due);
        longest(due);
        aRound(due);
        longestAfterForgetting(due);
        which(due);
        due.end();
    }

    /** Asks for aa, a and the empty text. */
    private static void onAndOff(Due due) {
        ShrinkDesk desk = Hand.desk("aaaa", "ha1");
        reduce(due, desk, "aaaa", "a", "3 0 1 0 3");
        reduce(due, desk, "aaaa", "a", "3 3 2 0 3");
        desk.remember(true);
        due.is("remember(true) forgets", Hand.counts(desk), "3 3 2 0 0");
        reduce(due, desk, "aaaa", "a", "6 3 3 0 3");
        desk.remember(false);
        due.is("remember(false) forgets", Hand.counts(desk), "6 3 3 0 0");
        reduce(due, desk, "aaaa", "a", "9 3 4 0 0");
        reduce(due, desk, "aaaa", "a", "12 3 5 0 0");
        desk.remember(true);
        reduce(due, desk, "aaaa", "a", "15 3 6 0 3");
        reduce(due, desk, "aaaa", "a", "15 6 7 0 3");
    }

    private static void byMark(Due due) {
        ShrinkDesk desk = Hand.desk("aaaa", "ha1");
        reduce(due, desk, "aaaa", "a", "3 0 1 0 3");
        due.is("mark of none", desk.mark(false), false);
        due.is("mark of none forgets nothing", desk.count(4), 3);
        Hand.mark(desk, "hb1", true);
        due.is("mark(true) forgets", Hand.counts(desk), "3 0 1 0 0");
        reduce(due, desk, "aaaa", "a", "6 0 2 0 3");
        Hand.mark(desk, "ha2", false);
        due.is("mark(false) forgets", Hand.counts(desk), "6 0 2 0 0");
        reduce(due, desk, "aaaa", "aa", "8 1 3 0 2");
        Hand.put(desk, "ha1");
        desk.remember(false);
        desk.mark(false);
        reduce(due, desk, "aaaa", "a", "11 1 4 0 0");
    }

    private static void byOtherCalls(Due due) {
        ShrinkDesk desk = Hand.desk("aaaa", "ha1");
        reduce(due, desk, "aaaa", "a", "3 0 1 0 3");
        Hand.put(desk, "hb1;hc1;&;!");
        Hand.read(desk, "A=a*;");
        Hand.read(desk, "A");
        desk.outcome();
        desk.nodes();
        desk.reduce(9, 9);
        desk.reduce(2, 9);
        reduce(due, desk, "aaaa", "a", "3 3 2 0 3");
    }

    /** With LONG 2, reducing two characters asks for the first and for the second one. */
    private static void longest(Due due) {
        ShrinkDesk desk = Hand.desk("", "l2");
        reduce(due, desk, "aa", "aa", "1 1 1 0 1");
        desk.remember(true);
        String signs = "abcdefghijklmnopqrstuvwx";
        for (int i = 0; i < 24; i += 2) {
            String two = signs.substring(i, i + 2);
            reduce(due, desk, two, two, (i + 3) + " 1 " + (i / 2 + 2) + " 0 " + (i + 2));
        }
        reduce(due, desk, "ay", "ay", "26 2 14 0 24");
        reduce(due, desk, "ab", "ab", "28 2 15 0 24");
        reduce(due, desk, "xy", "xy", "28 4 16 0 24");
        reduce(due, desk, "ea", "ea", "28 6 17 0 24");
        reduce(due, desk, "cd", "cd", "30 6 18 0 24");
        reduce(due, desk, "ef", "ef", "32 6 19 0 24");
        reduce(due, desk, "cy", "cy", "32 8 20 0 24");
    }

    /** With LONG 8, reducing eight characters asks for 26 texts: each is gone when it comes again. */
    private static void aRound(Due due) {
        ShrinkDesk desk = Hand.desk("", "l8");
        reduce(due, desk, "abcdefgh", "abcdefgh", "26 0 1 0 24");
        reduce(due, desk, "abcdefgh", "abcdefgh", "52 0 2 0 24");
        Hand.mark(desk, "l6", false);
        due.is("mark forgets all 24", desk.count(4), 0);
        reduce(due, desk, "a00000", "a00000", "60 14 3 0 8");
    }

    /** After more than 24 texts all is forgotten; then it begins as on a new object. */
    private static void longestAfterForgetting(Due due) {
        ShrinkDesk desk = Hand.desk("", "l8");
        reduce(due, desk, "abcdefgh", "abcdefgh", "26 0 1 0 24");
        Hand.mark(desk, "l2", false);
        for (int i = 0; i < 24; i += 2) {
            Hand.retype(desk, "abcdefghijklmnopqrstuvwx".substring(i, i + 2));
            desk.reduce(0, 400);
        }
        due.is("counts", Hand.counts(desk), "50 0 13 0 24");
        reduce(due, desk, "yz", "yz", "52 0 14 0 24");
        reduce(due, desk, "cd", "cd", "52 2 15 0 24");
        reduce(due, desk, "ab", "ab", "54 2 16 0 24");
        reduce(due, desk, "ef", "ef", "54 4 17 0 24");
    }

    private static void which(Due due) {
        ShrinkDesk desk = Hand.desk("aaaa", "ha1");
        desk.reduce(0, 400);
        int[] others = {-1, 5, 6, 100, Integer.MIN_VALUE, Integer.MAX_VALUE};
        for (int which : others) {
            due.is("count(" + which + ")", desk.count(which), -1);
        }
    }

    private static void reduce(Due due, ShrinkDesk desk, String text, String want, String counts) {
        Hand.retype(desk, text);
        due.is("reduce(0, 400) of " + text, desk.reduce(0, 400), want.length());
        due.is("text then", Hand.text(desk), want);
        due.is("counts then", Hand.counts(desk), counts);
    }
}
