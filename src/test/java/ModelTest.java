/** Makes the same calls of ShrinkDesk and of PlainModel; no two answers may differ. */
public final class ModelTest {
    private static final int RUNS = 4000;
    private static final String[] GRAMMARS = {
        "A=B*;B=a/(A);",
        "A=BC*;C=,B;B=a/b/-B/(A);",
        "A=BC;B=a*;C=b?c+;",
        "A=B*;B=( A )/C+;C=a/b/1;",
        "A=BD*;D=-B;B=CE*;E=,C;C=1/2/(A);",
        "C=A?B;A=(C);B=a*b?;",
        "A=aA/bB?A/;B=(A)/c*;",
        "A=B+C*D?;B=aB?/(A);C=- B;D=E;E=F+;F=1?2?;",
        "F=EEEE;E=DDD;D=CC;C=a?;",
        "A=BBB;B=CCC;C=DDD;D=a?;",
        "A=B;B=C;C=D;D=E;E=F;F=aA/bA/;",
        "A=B*;B=C ?;C=a+/b+/c+/1+;",
        "A=(A)A/-;",
        "A=a?B+;B=C;C=a?b?;",
    };

    private final Due due;
    private final ShrinkDesk desk = new ShrinkDesk();
    private final PlainModel model = new PlainModel();
    private final int run;
    private int calls;
    private long seed;

    private ModelTest(Due due, int run) {
        this.due = due;
        this.run = run;
        seed = 7919L * run + 17;
    }

    public static void main(String[] args) {
        int runs = args.length > 1 ? Integer.parseInt(args[1]) : RUNS;
        Due due = new Due("ModelTest");
        for (int run = 0; run < runs; run++) {
            new ModelTest(due, run).go();
        }
        due.end();
    }

    /** One of 0 .. n - 1, the same ones for the same run. */
    private int any(int n) {
        seed = seed * 6364136223846793005L + 1442695040888963407L;
        return (int) ((seed >>> 33) % n);
    }

    private char anyOf(String signs) {
        return signs.charAt(any(signs.length()));
    }

    private void same(String call, long got, long want) {
        calls++;
        due.is("run " + run + ", call " + calls + ": " + call, got, want);
    }

    private void same(String call, boolean got, boolean want) {
        same(call, got ? 1 : 0, want ? 1 : 0);
    }

    private void go() {
        if (any(4) > 0) {
            chooseGrammar();
        }
        chooseText();
        chooseMarks();
        while (calls < 460) {
            switch (any(12)) {
                case 0:
                    chooseMarks();
                    break;
                case 1:
                    boolean on = any(3) > 0;
                    desk.remember(on);
                    model.remember(on);
                    break;
                case 2:
                    if (any(3) == 0) {
                        chooseGrammar();
                    }
                    break;
                case 3:
                case 4:
                    chooseText();
                    break;
                case 5:
                    oddCall();
                    break;
                case 6:
                    lookAtTree();
                    break;
                default:
                    reduce();
            }
        }
    }

    private void reduce() {
        int kind = any(20) == 0 ? any(9) - 2 : any(5);
        int probes = any(3) == 0 ? any(30) : any(20) == 0 ? any(900) - 200 : 400;
        same("reduce(" + kind + ", " + probes + ")", desk.reduce(kind, probes), model.reduce(kind, probes));
        for (int i = 0; i < 6; i++) {
            same("count(" + i + ")", desk.count(i), model.count(i));
        }
        lookAtText();
    }

    private void lookAtText() {
        same("length()", desk.length(), model.length());
        for (int i = -1; i <= model.length(); i++) {
            calls--;
            same("at(" + i + ")", desk.at(i), model.at(i));
        }
        same("outcome()", desk.outcome(), model.outcome());
    }

    private void lookAtTree() {
        int nodes = model.nodes();
        same("nodes()", desk.nodes(), nodes);
        for (int i = -1; i <= nodes; i++) {
            calls--;
            same("node(" + i + ")", desk.node(i), model.node(i));
            calls--;
            same("depth(" + i + ")", desk.depth(i), model.depth(i));
        }
    }

    /** Calls with arguments that may well be refused. */
    private void oddCall() {
        char c = (char) any(any(9) == 0 ? 65536 : 130);
        switch (any(8)) {
            case 0:
                type(c);
                break;
            case 1:
                same("write(" + (int) c + ")", desk.write(c), model.write(c));
                break;
            case 2:
                int k = any(14) - 2;
                same("has(" + (int) c + ", " + k + ")", desk.has(c, k), model.has(c, k));
                break;
            case 3:
                boolean near = any(2) == 0;
                same("pair(" + (int) c + ", a)", desk.pair(c, 'a', near), model.pair(c, 'a', near));
                break;
            case 4:
                int n = any(40) - 4;
                same("size(" + n + ")", desk.size(n), model.size(n));
                break;
            case 5:
                same("not()", desk.not(), model.not());
                break;
            case 6:
                boolean either = any(2) == 0;
                same("join(" + either + ")", desk.join(either), model.join(either));
                break;
            default:
                boolean unclear = any(2) == 0;
                same("mark(" + unclear + ")", desk.mark(unclear), model.mark(unclear));
        }
    }

    private void type(char c) {
        calls--;
        same("type(" + (int) c + ")", desk.type(c), model.type(c));
    }

    private void chooseGrammar() {
        String grammar = any(3) > 0 ? madeGrammar() : GRAMMARS[any(GRAMMARS.length)];
        if (any(15) == 0) {
            int at = any(grammar.length());
            grammar = grammar.substring(0, at) + anyOf("=/;?*+AB a") + grammar.substring(at + 1);
        }
        for (int i = 0; i < grammar.length(); i++) {
            calls--;
            same("write(" + (int) grammar.charAt(i) + ")", desk.write(grammar.charAt(i)), model.write(grammar.charAt(i)));
        }
        same("read() of " + grammar, desk.read(), model.read());
    }

    /** Before a character stands, mostly just later names are used, so that not all lead back. */
    private String madeGrammar() {
        StringBuilder grammar = new StringBuilder();
        int rules = 1 + any(5);
        int first = any(7 - rules);
        for (int r = 0; r < rules; r++) {
            int name = first + (any(12) == 0 ? any(rules) : r);
            grammar.append((char) ('A' + name)).append('=');
            for (int rows = any(3); rows >= 0; rows--) {
                boolean solid = any(40) == 0;
                for (int items = any(5); items > 0; items--) {
                    int from = solid ? 0 : r + 1;
                    if (from < rules && any(3) > 0) {
                        grammar.append((char) ('A' + first + from + any(rules - from)));
                    } else {
                        grammar.append(anyOf("aabb(,)- 1"));
                        solid = true;
                    }
                    if (any(2) == 0) {
                        grammar.append(anyOf("?**+"));
                    }
                }
                grammar.append(rows > 0 ? "/" : ";");
            }
        }
        return grammar.toString();
    }

    /** A text that the grammar may well give, or just any. */
    private void chooseText() {
        String best = "";
        for (int i = 0; i < 12; i++) {
            setText(any(6) == 0 || model.startName() == 0 ? anyText() : derived());
            if (model.nodes() > 0 && (i == 0 || model.length() >= best.length())) {
                best = model.text();
            }
        }
        if (!best.isEmpty()) {
            setText(best);
        }
        desk.clear();
        for (int i = 0; i < model.length(); i++) {
            calls--;
            same("type", desk.type(model.at(i)), true);
        }
        calls += model.length() / 4;
        if (any(9) == 0) {
            type(anyOf("ab(),- 1"));
        }
        lookAtText();
        lookAtTree();
    }

    private void setText(String text) {
        model.clear();
        for (int i = 0; i < text.length(); i++) {
            model.type(text.charAt(i));
        }
    }

    private String anyText() {
        StringBuilder text = new StringBuilder();
        String signs = any(2) == 0 ? "ab  1" : "ab(),- 1";
        for (int i = any(34); i > 0; i--) {
            text.append(anyOf(signs));
        }
        return text.toString();
    }

    private String derived() {
        StringBuilder text = new StringBuilder();
        derive(model.startName(), text, 0);
        return text.length() > 32 ? text.substring(0, 32) : text.toString();
    }

    private void derive(char name, StringBuilder text, int depth) {
        if (depth > 20 || text.length() > 40) {
            return;
        }
        String[] rows = model.rowsOf(name);
        for (String item : PlainModel.items(rows[any(rows.length)])) {
            char tail = item.length() > 1 ? item.charAt(1) : ' ';
            int times = tail == '?' ? any(2) : tail == '*' ? any(5) : tail == '+' ? 1 + any(4) : 1;
            for (int i = 0; i < times; i++) {
                if (item.charAt(0) >= 'A' && item.charAt(0) <= 'F') {
                    derive(item.charAt(0), text, depth + 1);
                } else {
                    text.append(item.charAt(0));
                }
            }
        }
    }

    private void chooseMarks() {
        int parts = 1 + any(4);
        for (int i = 0; i < parts; i++) {
            putTrueTerm();
            if (i > 0) {
                boolean either = any(4) == 0;
                same("join(" + either + ")", desk.join(either), model.join(either));
            }
        }
        if (any(12) == 0) {
            same("not()", desk.not(), model.not());
        }
        boolean unclear = any(9) == 0;
        same("mark(" + unclear + ")", desk.mark(unclear), model.mark(unclear));
    }

    /** A term that mostly holds of the typed text. */
    private void putTrueTerm() {
        int length = model.length();
        int i = length == 0 ? 0 : any(length);
        int j = length == 0 ? 0 : any(length);
        char c = length == 0 ? 'a' : model.at(Math.min(i, j));
        char d = length == 0 ? 'b' : model.at(Math.max(i, j));
        int k = 1 + any(2);
        switch (any(7)) {
            case 0:
            case 1:
                same("has(" + (int) c + ", " + k + ")", desk.has(c, k), model.has(c, k));
                break;
            case 2:
            case 3:
                same("pair(" + (int) c + ", " + (int) d + ")", desk.pair(c, d, false), model.pair(c, d, false));
                break;
            case 4:
                char e = length == 0 ? 'b' : model.at(Math.min(i + 1, length - 1));
                char b = length == 0 ? 'b' : model.at(i);
                same("pair(" + (int) b + ", " + (int) e + ", near)", desk.pair(b, e, true), model.pair(b, e, true));
                break;
            case 5:
                int n = any(length + 1) / 2;
                same("size(" + n + ")", desk.size(n), model.size(n));
                break;
            default:
                same("size(-1)", desk.size(-1), model.size(-1));
                if (length % 2 == 1) {
                    same("not()", desk.not(), model.not());
                }
        }
    }
}
