import java.util.ArrayList;
import java.util.LinkedHashSet;
import java.util.List;

/**
 * Looks at which texts a reduction asks for, and in which order. A text that was asked for is
 * remembered; so it is a hit when it is asked for once more, by a reduction that may make no probe.
 * For that WRONG holds of every text with a z, and no text that is looked at has one.
 */
final class Asked {
    private final Due due;
    private final String text;
    private final String wrong;
    private final String grammar;

    /** The grammar may be null. */
    Asked(Due due, String text, String wrong, String grammar) {
        this.due = due;
        this.text = text;
        this.wrong = wrong;
        this.grammar = grammar;
    }

    /**
     * The reduction asks for just these texts, a text that comes again being a hit; it is looked at
     * with every number of probes from none to one more than it needs, and with 400.
     */
    void by(int kind, String result, String... asked) {
        List<String> texts = new ArrayList<>(new LinkedHashSet<>(List.of(asked)));
        for (int probes = 0; probes <= texts.size() + 1; probes++) {
            String call = "reduce(" + kind + ", " + probes + ") of \"" + text + "\"";
            ShrinkDesk desk = reduced(kind, probes);
            due.is(call + ": counts", Hand.counts(desk), counts(asked, probes));
            due.is(call + ": ends with the result", Hand.text(desk).equals(result), lastTaken(texts, result, probes));
            for (int i = 0; i < texts.size(); i++) {
                boolean held = isRemembered(reduced(kind, probes), texts.get(i));
                due.is(call + ": asks for \"" + texts.get(i) + "\"", held, i < probes);
            }
        }
        ShrinkDesk desk = reduced(kind, 400);
        due.is("reduce(" + kind + ", 400) of \"" + text + "\": counts", Hand.counts(desk), counts(asked, 400));
        due.is("reduce(" + kind + ", 400) of \"" + text + "\"", Hand.text(desk), result);
    }

    /** The result stands as soon as it was asked for; from the beginning when it is the text itself. */
    private boolean lastTaken(List<String> texts, String result, int probes) {
        return text.equals(result) || texts.indexOf(result) < probes;
    }

    private ShrinkDesk reduced(int kind, int probes) {
        ShrinkDesk desk = Hand.desk(text, wrong + ";hz1;|");
        if (grammar != null) {
            Hand.read(desk, grammar);
        }
        desk.reduce(kind, probes);
        return desk;
    }

    private static String counts(String[] asked, int probes) {
        List<String> held = new ArrayList<>();
        int hits = 0;
        int ended = 0;
        for (int i = 0; i < asked.length && ended == 0; i++) {
            if (held.contains(asked[i])) {
                hits++;
            } else if (held.size() == probes) {
                ended = 1;
            } else {
                held.add(asked[i]);
            }
        }
        return held.size() + " " + hits + " 1 " + ended + " " + held.size();
    }

    /** Needs WRONG to hold of every text with a z. What is remembered stays as it is. */
    static boolean isRemembered(ShrinkDesk desk, String asked) {
        Hand.retype(desk, asked + "z".repeat(asked.length() + 1));
        int hits = desk.count(1);
        desk.reduce(0, 0);
        return desk.count(1) > hits;
    }
}
