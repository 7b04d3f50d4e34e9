/** Makes many calls of a ShrinkDesk at once, and tells what is in it as a text. */
final class Hand {
    static final String TEXT_SIGNS = "abcdefghijklmnopqrstuvwxyz0123456789 ,-()";
    static final String GRAMMAR_SIGNS = TEXT_SIGNS + "ABCDEF=/;?*+";

    private Hand() {
    }

    /** A new object with a typed text and the mark WRONG. */
    static ShrinkDesk desk(String text, String wrong) {
        ShrinkDesk desk = new ShrinkDesk();
        type(desk, text);
        mark(desk, wrong, false);
        return desk;
    }

    /** The same with a grammar. */
    static ShrinkDesk desk(String text, String wrong, String grammar) {
        ShrinkDesk desk = desk(text, wrong);
        read(desk, grammar);
        return desk;
    }

    static boolean type(ShrinkDesk desk, String text) {
        boolean all = true;
        for (char c : text.toCharArray()) {
            all &= desk.type(c);
        }
        return all;
    }

    static boolean retype(ShrinkDesk desk, String text) {
        desk.clear();
        return type(desk, text);
    }

    static boolean write(ShrinkDesk desk, String grammar) {
        boolean all = true;
        for (char c : grammar.toCharArray()) {
            all &= desk.write(c);
        }
        return all;
    }

    static int read(ShrinkDesk desk, String grammar) {
        write(desk, grammar);
        return desk.read();
    }

    /**
     * Puts a term on the stack, told in reverse Polish: "hc3" HAS c, 3; "bcd" BEFORE c, d; "ncd" NEXT
     * c, d; "l12" LONG 12; "e" EVEN; "!" NOT; "&" AND; "|" OR; with ";" between them.
     */
    static boolean put(ShrinkDesk desk, String term) {
        boolean all = true;
        for (String part : term.split(";")) {
            all &= putOne(desk, part);
        }
        return all;
    }

    private static boolean putOne(ShrinkDesk desk, String part) {
        switch (part.charAt(0)) {
            case 'h':
                return desk.has(part.charAt(1), Integer.parseInt(part.substring(2)));
            case 'b':
                return desk.pair(part.charAt(1), part.charAt(2), false);
            case 'n':
                return desk.pair(part.charAt(1), part.charAt(2), true);
            case 'l':
                return desk.size(Integer.parseInt(part.substring(1)));
            case 'e':
                return desk.size(-1);
            case '!':
                return desk.not();
            case '&':
                return desk.join(false);
            default:
                return desk.join(true);
        }
    }

    static boolean mark(ShrinkDesk desk, String term, boolean unclear) {
        return put(desk, term) & desk.mark(unclear);
    }

    static String text(ShrinkDesk desk) {
        StringBuilder text = new StringBuilder();
        for (int i = 0; i < desk.length(); i++) {
            text.append(desk.at(i));
        }
        return text.toString();
    }

    /** All nodes, each as its rule, ' if it is loose, and [depth:characters]. */
    static String tree(ShrinkDesk desk) {
        String text = text(desk);
        StringBuilder tree = new StringBuilder();
        for (int i = 0; i < desk.nodes(); i++) {
            int told = desk.node(i);
            int begin = told % 5000 / 40;
            tree.append(told / 10000 == 6 ? "." : String.valueOf((char) ('A' + told / 10000)));
            tree.append(told % 10000 >= 5000 ? "'" : "").append('[').append(desk.depth(i)).append(':');
            tree.append(text, begin, begin + told % 40).append(']');
        }
        return tree.toString();
    }

    /** What count answers for 0 .. 4: probes, hits, reductions, ended, remembered. */
    static String counts(ShrinkDesk desk) {
        StringBuilder counts = new StringBuilder();
        for (int which = 0; which < 5; which++) {
            counts.append(which == 0 ? "" : " ").append(desk.count(which));
        }
        return counts.toString();
    }
}
