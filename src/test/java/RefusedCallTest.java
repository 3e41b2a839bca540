import java.util.ArrayList;
import java.util.List;
import java.util.function.Supplier;
import java.util.function.ToIntFunction;

/**
 * "A call that is refused changes nothing (but see define on the text)": every call that can be
 * refused, in every state in which it can be, on an object of its own. All that can be asked is
 * asked before and behind it, and then the object goes on as one does that was never refused
 * anything, which shows that its text and its run have stayed too.
 */
public final class RefusedCallTest {
    private static final int NONE = Probe.NONE;
    private static final int BAD = Probe.BAD;
    private static final int FALSE = 0;
    private static final int A = Probe.A;
    private static final int B = Probe.B;
    private static final int C = Probe.C;
    private static final int D = Probe.D;
    private static final int P = Probe.P;
    private static final int U = Probe.U;

    /** Typed before the refused call; a "}" behind it makes it a protocol. */
    private static final String HALF = "AB{u.e";

    /** 60 characters that are a protocol. */
    private static final String SIXTY = "mX.AB{p.AB{p.AB{p.AB{p.AB{p.AB{p.AB{p.AB{p.e,q.e,r.X}}}}}}}}";

    private static final String CHAIN = "mX.AB{p.BC{q.CD{r.X}}}";

    private static final Report report = new Report();

    /** A call that is refused, with what it answers then. */
    private record Refusal(int promise, String call, int due, ToIntFunction<Probe> on) {}

    /** A state of an object, its text, the moves that can be made, and the calls that are refused. */
    private record State(String name, Supplier<Probe> textless, String text, String moves, List<Refusal> refusals) {
        Probe made() {
            return textless.get().typed(text);
        }
    }

    public static void main(String[] args) {
        report.runAll(
                RefusedCallTest::refusedCalls,
                RefusedCallTest::refusedDefine,
                RefusedCallTest::questions);
    }

    private static void refusedCalls() {
        for (State state : states()) {
            for (Refusal refusal : state.refusals()) {
                report.sentence("Promise " + refusal.promise() + " (" + refusal.call() + ", " + state.name() + ")",
                        "A call that is refused changes nothing");
                refuse(state, refusal);
            }
        }
    }

    private static void refuse(State state, Refusal refusal) {
        Probe x = state.made();
        String before = x.everything();
        report.due(refusal.call(), refusal.on().applyAsInt(x), refusal.due());
        report.due("all that can be asked behind it", x.everything(), before);
        report.due("how it goes on", goneOn(x, state), goneOn(state.made(), state));
    }

    /** The object's moves one by one, and then what its text is, as the protocol it makes. */
    private static String goneOn(Probe x, State state) {
        StringBuilder answers = new StringBuilder();
        for (String move : state.moves().isEmpty() ? new String[0] : state.moves().split(" ")) {
            x.moved(move);
            answers.append(x.moves()).append(' ').append(x.ready()).append(' ');
        }
        x.type('}');
        answers.append(x.define()).append(' ').append(x.messages());
        for (int role = A; role <= D; role++) {
            answers.append(' ').append(x.length(role));
        }
        return answers.toString();
    }

    /** The text is empty behind it, in which it differs from all other calls. */
    private static void refusedDefine() {
        String[] faults = {"", "!", "CD{", "CD{q.e!", "CD{q.CD{r.e}", "!".repeat(60), SIXTY.substring(0, 59),
            "mY." + SIXTY.substring(0, 57)};
        int[] places = {0, 0, 3, 6, 12, 0, 59, 60};
        for (int n = 0; n < faults.length; n++) {
            refuseDefine("Answers its fault", faults[n], places[n]);
        }
        String[] unsound = {"X", "mX.X", "mX.Y", "AB{p.X}", "AB{p.mX.X}", "mX.mX.e", "mX.CD{p.mX.e}", "CC{q.e}",
            "CD{q.e,q.e}", "CD{p.e,q.CD{r.e,s.CD{t.X}}}", SIXTY.replace("r.X", "q.X")};
        for (String text : unsound) {
            refuseDefine("BAD when it is a protocol that is not sound", text, BAD);
        }
    }

    private static void refuseDefine(String words, String text, int due) {
        for (State state : states()) {
            report.sentence("Promise 3 (define of '" + text + "', " + state.name() + ")", words
                    + " .. (With a fault or BAD, the protocol and the run stay.)");
            Probe x = state.textless().get();
            String before = x.everything();
            report.due("define", x.define(text), due);
            report.due("all that can be asked behind it", x.everything(), before);
            report.due("define of the text then", x.define(), 0);
        }
    }

    /** Questions change nothing either, whatever they answer. */
    private static void questions() {
        for (State state : states()) {
            report.sentence("Promises 4 to 6, 8 to 10, 13 to 17 (" + state.name() + ")",
                    "Nothing is promised beyond the answers and state changes described above");
            Probe x = state.made();
            String before = x.everything();
            report.due("all that can be asked, asked twice", x.everything(), before);
            report.due("how it goes on", goneOn(x, state), goneOn(state.made(), state));
        }
    }

    // The states

    private static List<State> states() {
        return List.of(
                state("a new object", Probe::new, HALF, "", withoutARun(true)),
                state("a protocol and no run", () -> Probe.of(CHAIN), HALF, "", withoutARun(false)),
                state("a protocol without the parts of C and D", () -> Probe.of("AB{p.CD{q.e},r.e}"), HALF, "",
                        withoutSomeParts()),
                state("a run that was ended by define", RefusedCallTest::replaced, HALF, "", withoutARun(false)),
                state("a run at its beginning", () -> Probe.run(CHAIN), HALF, "A!p B?p B!q C?q C!r D?r",
                        atTheBeginning()),
                state("a run with a full row", () -> Probe.run(CHAIN).moved("A!p A!p A!p"), HALF,
                        "B?p A!p B!q B?p C?q", withAFullRow()),
                state("a run with a row on each way",
                        () -> Probe.run(CHAIN).moved("A!p A!p B?p B!q B?p B!q C?q C!r A!p"), HALF, "B?p C?q D?r A!p",
                        withSomeRows()),
                state("a run that is over", () -> Probe.run("AB{p.CD{q.e}}").moved("A!p B?p C!q D?q"), HALF, "",
                        whenAllHaveEnded()),
                state("a run and a full text", () -> Probe.run("AB{p.CD{q.e}}").moved("A!p"), SIXTY, "B?p C!q D?q",
                        withAFullText()),
                state("no protocol and a full text", Probe::new, SIXTY, "", withAFullText()),
                state("a run and an empty text", () -> Probe.run("AB{p.CD{q.e}}").moved("A!p"), "", "B?p C!q D?q",
                        List.of()));
    }

    private static State state(String name, Supplier<Probe> textless, String text, String moves, List<Refusal> own) {
        List<Refusal> refusals = new ArrayList<>(own);
        refusals.addAll(inEveryState());
        return new State(name, textless, text, moves, refusals);
    }

    private static Probe replaced() {
        Probe x = Probe.run(CHAIN).moved("A!p A!p B?p B!q");
        x.define(CHAIN);
        return x;
    }

    // The refused calls

    private static List<Refusal> inEveryState() {
        List<Refusal> list = new ArrayList<>();
        for (int code : new int[] {0, 31, 127, 256 + '}', 65535}) {
            list.add(new Refusal(2, "type of code " + code, FALSE, x -> bit(x.type((char) code))));
        }
        for (int role : new int[] {-1, 4, Integer.MIN_VALUE, Integer.MAX_VALUE}) {
            list.addAll(ofRole(role));
        }
        for (int label : new int[] {-1, 6, Integer.MIN_VALUE, Integer.MAX_VALUE}) {
            list.add(new Refusal(10, "offers of label " + label, FALSE, x -> bit(x.offers(A, label))));
            list.add(new Refusal(11, "send of label " + label, FALSE, x -> bit(x.send(A, label))));
        }
        for (int k : new int[] {-1, 60, Integer.MIN_VALUE, Integer.MAX_VALUE}) {
            list.add(new Refusal(6, "charAt of " + k, NONE, x -> x.charAt(A, k)));
            list.add(new Refusal(14, "labelAt of " + k, NONE, x -> x.labelAt(A, B, k)));
        }
        return list;
    }

    private static List<Refusal> ofRole(int role) {
        String of = " of role " + role;
        return List.of(
                new Refusal(5, "length" + of, NONE, x -> x.length(role)),
                new Refusal(6, "charAt" + of, NONE, x -> x.charAt(role, 0)),
                new Refusal(8, "act" + of, NONE, x -> x.act(role)),
                new Refusal(9, "partner" + of, NONE, x -> x.partner(role)),
                new Refusal(10, "offers" + of, FALSE, x -> bit(x.offers(role, P))),
                new Refusal(11, "send" + of, FALSE, x -> bit(x.send(role, P))),
                new Refusal(12, "receive" + of, NONE, x -> x.receive(role)),
                new Refusal(13, "onTheWay from" + of, NONE, x -> x.onTheWay(role, B)),
                new Refusal(13, "onTheWay to" + of, NONE, x -> x.onTheWay(A, role)),
                new Refusal(14, "labelAt from" + of, NONE, x -> x.labelAt(role, B, 0)),
                new Refusal(14, "labelAt to" + of, NONE, x -> x.labelAt(A, role, 0)));
    }

    private static List<Refusal> withoutARun(boolean beginIsRefused) {
        List<Refusal> list = new ArrayList<>();
        if (beginIsRefused) {
            list.add(new Refusal(7, "begin", FALSE, x -> bit(x.begin())));
        }
        for (int role = A; role <= D; role++) {
            addSends(list, role, "pqrstu");
            addReceive(list, role);
        }
        return list;
    }

    private static List<Refusal> withoutSomeParts() {
        List<Refusal> list = withoutARun(true);
        list.add(new Refusal(5, "length of C", NONE, x -> x.length(C)));
        list.add(new Refusal(6, "charAt of D", NONE, x -> x.charAt(D, 0)));
        return list;
    }

    /** A sends p; B, C and D receive, and nothing is on the way. */
    private static List<Refusal> atTheBeginning() {
        List<Refusal> list = new ArrayList<>();
        addSends(list, A, "qrstu");
        for (int role = A; role <= D; role++) {
            addReceive(list, role);
        }
        addSends(list, B, "pq");
        addSends(list, C, "qr");
        addSends(list, D, "r");
        return list;
    }

    /** A sends p, and 3 are on the way to B; C and D receive, and nothing is on the way to them. */
    private static List<Refusal> withAFullRow() {
        List<Refusal> list = new ArrayList<>();
        addSends(list, A, "pqrstu");
        addReceive(list, A);
        addSends(list, B, "pq");
        addReceive(list, C);
        addReceive(list, D);
        return list;
    }

    /** A sends p, B receives it; C and D receive, and something is on the way to each of them. */
    private static List<Refusal> withSomeRows() {
        List<Refusal> list = new ArrayList<>();
        addSends(list, A, "qrstu");
        addReceive(list, A);
        addSends(list, B, "pq");
        addSends(list, C, "qr");
        addSends(list, D, "r");
        return list;
    }

    private static List<Refusal> whenAllHaveEnded() {
        List<Refusal> list = new ArrayList<>();
        for (int role = A; role <= D; role++) {
            addSends(list, role, "pqrstu");
            addReceive(list, role);
        }
        return list;
    }

    private static List<Refusal> withAFullText() {
        List<Refusal> list = new ArrayList<>();
        for (char c : new char[] {32, 'e', '}', 126}) {
            list.add(new Refusal(2, "type of code " + (int) c, FALSE, x -> bit(x.type(c))));
        }
        return list;
    }

    private static void addSends(List<Refusal> list, int role, String labels) {
        for (int label = P; label <= U; label++) {
            int sent = label;
            if (labels.indexOf('p' + label) >= 0) {
                list.add(new Refusal(11, "send of " + (char) ('p' + label) + " by role " + role, FALSE,
                        x -> bit(x.send(role, sent))));
            }
        }
    }

    private static void addReceive(List<Refusal> list, int role) {
        list.add(new Refusal(12, "receive by role " + role, NONE, x -> x.receive(role)));
    }

    private static int bit(boolean answer) {
        return answer ? 1 : 0;
    }
}
