import java.util.List;
import java.util.function.Supplier;

/**
 * Promises 1 to 17, sentence by sentence: for each one that names a boundary case the last case
 * within and the first one outside on either side. That a refused call changes nothing is looked at
 * in RefusedCallTest, and what no row of calls reaches in InsideTest.
 */
public final class EdgeTest {
    private static final int NONE = Probe.NONE;
    private static final int BAD = Probe.BAD;
    private static final int A = Probe.A;
    private static final int B = Probe.B;
    private static final int C = Probe.C;
    private static final int D = Probe.D;
    private static final int P = Probe.P;
    private static final int Q = Probe.Q;
    private static final int R = Probe.R;
    private static final int S = Probe.S;
    private static final int U = Probe.U;

    /** A sound protocol of just 60 characters, in which C and D have no part. */
    private static final String SIXTY = "mX.AB{p.AB{p.AB{p.AB{p.AB{p.AB{p.AB{p.AB{p.e,q.e,r.X}}}}}}}}";

    /** In a run of it no role ends, and each can be far ahead of the next one. */
    private static final String CHAIN = "mX.AB{p.BC{q.CD{r.X}}}";

    private static final Report report = new Report();

    public static void main(String[] args) {
        report.runAll(
                EdgeTest::constants,
                EdgeTest::newObject,
                EdgeTest::typeAppends,
                EdgeTest::typeOutsideTheCodes,
                EdgeTest::typeWithSixty,
                EdgeTest::defineEmptiesTheText,
                EdgeTest::defineAnswersTheFault,
                EdgeTest::defineAnswersBad,
                EdgeTest::defineTakesTheProtocol,
                EdgeTest::defineEndsTheRun,
                EdgeTest::defineKeepsProtocolAndRun,
                EdgeTest::messagesAsWritten,
                EdgeTest::messagesWithoutAProtocol,
                EdgeTest::lengthOfAPart,
                EdgeTest::lengthOfNone,
                EdgeTest::charactersOfAPart,
                EdgeTest::charactersOutside,
                EdgeTest::beginInPlaceOfAnother,
                EdgeTest::beginRefused,
                EdgeTest::actOfARole,
                EdgeTest::actOfNone,
                EdgeTest::partnerOfARole,
                EdgeTest::partnerOfNone,
                EdgeTest::offersALabel,
                EdgeTest::offersNone,
                EdgeTest::sendIsTheLastOnTheWay,
                EdgeTest::sendWithoutARun,
                EdgeTest::sendOfNoRole,
                EdgeTest::sendOfARoleThatDoesNot,
                EdgeTest::sendOfALabelNotOffered,
                EdgeTest::sendWithThreeOnTheWay,
                EdgeTest::receiveTheFirstOnTheWay,
                EdgeTest::receiveWithoutARun,
                EdgeTest::receiveOfNoRole,
                EdgeTest::receiveOfARoleThatDoesNot,
                EdgeTest::receiveWithNoneOnTheWay,
                EdgeTest::onTheWayCounts,
                EdgeTest::onTheWayOfNone,
                EdgeTest::onTheWayToItself,
                EdgeTest::labelAtInOrder,
                EdgeTest::labelAtOfNone,
                EdgeTest::movesOfARun,
                EdgeTest::movesOfNone,
                EdgeTest::readySenders,
                EdgeTest::readyReceivers,
                EdgeTest::readyFromNoneToFour,
                EdgeTest::readyOfNone,
                EdgeTest::overWithAllEnded,
                EdgeTest::overWithOneNotEnded,
                EdgeTest::overOfNone);
    }

    // The public face

    private static void constants() {
        report.sentence("The public face", "public static final int NONE = -1;");
        report.due("NONE", RoleParts.NONE, -1);
        report.sentence("The public face", "public static final int BAD = -2;");
        report.due("BAD", RoleParts.BAD, -2);
    }

    // Promise 1

    private static void newObject() {
        report.sentence("Promise 1", "An empty text, no protocol, no run.");
        report.due("define of the empty text", new Probe().define(), 0);
        report.due("a character typed is the first one", new Probe().define("e"), NONE);
        report.due("60 characters fit", new Probe().define(SIXTY), NONE);
        Probe x = new Probe();
        report.due("messages", x.messages(), NONE);
        report.due("begin", x.begin(), false);
        for (int role = A; role <= D; role++) {
            report.due("length", x.length(role), NONE);
            report.due("charAt", x.charAt(role, 0), NONE);
        }
        noRun("a new object", x);
        // One object has nothing of another one.
        Probe.run("mX.AB{p.X}").moved("A!p").typed("AB{");
        Probe y = new Probe();
        report.due("messages of another object", y.messages(), NONE);
        report.due("moves of another object", y.moves(), NONE);
        report.due("define of another object", y.define(), 0);
    }

    // Promise 2

    private static void typeAppends() {
        report.sentence("Promise 2", "Appends a character to the text and answers true");
        Probe x = new Probe();
        String text = "AB{p.e,q.mX.e}";
        for (int k = 0; k < text.length(); k++) {
            report.due("type of character " + k, x.type(text.charAt(k)), true);
        }
        report.due("define", x.define(), NONE);
        report.due("the part of B, in the order typed", x.part(B), "A?{p.e,q.e}");
        for (char c = 32; c <= 126; c++) {
            Probe y = new Probe();
            report.due("type of code " + (int) c, y.type('e') && y.type(c), true);
            report.due("code " + (int) c + " is there", y.define(), 1);
        }
    }

    private static void typeOutsideTheCodes() {
        report.sentence("Promise 2", "false when c is not 32 .. 126");
        report.due("type of code 31", new Probe().type((char) 31), false);
        report.due("type of code 32", new Probe().type((char) 32), true);
        report.due("type of code 126", new Probe().type((char) 126), true);
        report.due("type of code 127", new Probe().type((char) 127), false);
        char[] others = {0, '\t', '\n', '\r', 128, 160, 255, 256, 256 + 'e', 32767, 32768, 65535};
        for (char c : others) {
            Probe x = new Probe().typed("AB{p.");
            report.due("type of code " + (int) c, x.type(c), false);
            report.due("the text goes on behind code " + (int) c, x.define("e}"), NONE);
        }
    }

    private static void typeWithSixty() {
        report.sentence("Promise 2", "or the text has 60");
        Probe x = new Probe().typed(SIXTY.substring(0, 58));
        report.due("type with 58", x.type('}'), true);
        report.due("type with 59", x.type('}'), true);
        for (char c = 32; c <= 126; c++) {
            report.due("type with 60 of code " + (int) c, x.type(c), false);
        }
        report.due("type with 60 of code 31", x.type((char) 31), false);
        report.due("type with 60 of code 127", x.type((char) 127), false);
        report.due("define of 60", x.define(), NONE);
        // The text is empty then, and has room for 60 once more.
        report.due("define of 60 once more", x.define(SIXTY.replace('r', 'u')), NONE);
        report.due("the part of 60 once more", x.part(A), SIXTY.replace('r', 'u').replace("AB", "B!"));
    }

    // Promise 3

    private static void defineEmptiesTheText() {
        report.sentence("Promise 3", "Reads the text, which is empty then.");
        String[] texts = {"", "!", "AB{p.e", "AA{p.e}", "X", "e", "AB{p.e}", SIXTY, SIXTY.substring(0, 59), "!".repeat(60)};
        for (String text : texts) {
            Probe x = new Probe();
            x.define(text);
            report.due("define of nothing behind '" + text + "'", x.define(), 0);
            x.define(text);
            report.due("define of one behind '" + text + "'", x.define("e"), NONE);
            x.define(text);
            report.due("define of 60 behind '" + text + "'", x.define(SIXTY), NONE);
        }
    }

    private static void defineAnswersTheFault() {
        report.sentence("Promise 3", "Answers its fault");
        report.due("define of the empty text", new Probe().define(), 0);
        report.due("the first place", new Probe().define("!"), 0);
        report.due("the last place", new Probe().define("AB{p.e!"), 6);
        report.due("behind the last place", new Probe().define("AB{p.e"), 6);
        report.due("the first place of 60", new Probe().define("!" + SIXTY.substring(1)), 0);
        report.due("the last place of 60", new Probe().define(SIXTY.substring(0, 59) + "!"), 59);
        report.due("behind the last place of 60", new Probe().define("mZ." + SIXTY.substring(0, 57)), 60);
        // A fault is told also when what stands before it is not sound.
        report.due("a fault behind what is not sound", new Probe().define("AA{p.e}!"), 7);
        report.due("a fault at the end of what is not sound", new Probe().define("AA{p.X"), 6);
    }

    private static void defineAnswersBad() {
        report.sentence("Promise 3", "BAD when it is a protocol that is not sound");
        String[] texts = {"X", "mX.X", "mX.Y", "mX.mX.e", "AA{p.e}", "AB{p.e,p.e}", "AB{p.X}", "AB{p.mX.X}"};
        for (String text : texts) {
            Probe x = new Probe();
            report.due("define of " + text, x.define(text), BAD);
            report.due("messages behind " + text, x.messages(), NONE);
            report.due("length behind " + text, x.length(A), NONE);
            report.due("begin behind " + text, x.begin(), false);
        }
        String bad = SIXTY.replace("r.X", "q.X");
        report.due("the length of a text of this test", bad.length(), 60);
        report.due("define of 60", new Probe().define(bad), BAD);
    }

    private static void defineTakesTheProtocol() {
        report.sentence("Promise 3", "NONE when it is a sound one, which is the protocol from then on, in place of an"
                + " earlier one");
        report.due("define of the shortest", new Probe().define("e"), NONE);
        report.due("define of the longest", new Probe().define(SIXTY), NONE);
        Probe x = Probe.of("AB{p.e}");
        parts("the first protocol", x, 1, "B!{p.e}", "A?{p.e}", "e", "e");
        report.due("define of a longer one", x.define("AB{p.CD{q.e},r.e}"), NONE);
        parts("a longer one", x, 2, "B!{p.e,r.e}", "A?{p.e,r.e}", "none", "none");
        report.due("define of a shorter one", x.define("CD{u.e}"), NONE);
        parts("a shorter one", x, 1, "e", "e", "D!{u.e}", "C?{u.e}");
        report.due("define of the longest", x.define(SIXTY), NONE);
        parts("the longest", x, 8, SIXTY.replace("AB", "B!"), SIXTY.replace("AB", "A?"), "none", "none");
        report.due("define of the shortest", x.define("e"), NONE);
        parts("the shortest", x, 0, "e", "e", "e", "e");
        report.due("begin of the last one", x.begin(), true);
        report.due("it is over at once", x.over(), true);
    }

    private static void defineEndsTheRun() {
        report.sentence("Promise 3", "and no run is there");
        String[] later = {"e", "mX.AB{p.X}", "AB{p.CD{q.e},r.e}"};
        for (String text : later) {
            Probe x = Probe.run("mX.AB{p.X}").moved("A!p A!p B?p");
            report.due("define of " + text, x.define(text), NONE);
            noRun("behind define of " + text, x);
        }
        // The run of before does not come back, and the new one has nothing of it.
        Probe x = Probe.run("mX.AB{p.X}").moved("A!p A!p B?p");
        report.due("define of the same", x.define("mX.AB{p.X}"), NONE);
        report.due("begin", x.begin(), true);
        report.due("moves", x.moves(), 0);
        report.due("the row", x.row(A, B), "----");
    }

    private static void defineKeepsProtocolAndRun() {
        report.sentence("Promise 3", "(With a fault or BAD, the protocol and the run stay.)");
        String[] texts = {"", "!", "CD{", "CD{q.e!", "CD{q.CD{r.e}", "!".repeat(60), "X", "CC{q.e}", "CD{q.e,q.e}",
            "mY.mY.e", "mX.CD{p.e,q.mX.e}", "CD{q.CD{r.CD{s.X}}}"};
        for (String text : texts) {
            Probe x = Probe.run("mX.AB{p.X,q.AB{r.X}}").moved("A!p A!q B?p");
            String before = x.everything();
            report.due("define of '" + text + "' is refused", x.define(text) != NONE, true);
            report.due("all behind '" + text + "'", x.everything(), before);
            report.due("the run goes on", x.receive(B), Q);
            report.due("the run goes on", x.send(A, R), true);
        }
    }

    // Promise 4

    private static void messagesAsWritten() {
        report.sentence("Promise 4", "The number of messages of the protocol (each counted once, as it is written)");
        report.due("messages of e", Probe.of("e").messages(), 0);
        report.due("messages of loops alone", Probe.of("mX.mY.mZ.e").messages(), 0);
        report.due("messages of one", Probe.of("AB{p.e}").messages(), 1);
        report.due("branches are not counted", Probe.of("AB{p.e,q.e,r.e,s.e,t.e,u.e}").messages(), 1);
        report.due("the same one twice", Probe.of("AB{p.CD{q.e},r.CD{q.e}}").messages(), 3);
        report.due("the most of them", Probe.of("AB{p.".repeat(9) + "e" + "}".repeat(9)).messages(), 9);
        Probe x = Probe.run("mX.AB{p.X}").moved("A!p B?p A!p B?p");
        report.due("a loop that was gone through", x.messages(), 1);
        report.due("messages of a protocol without parts", Probe.of("CD{p.AB{p.CD{r.e},q.e}}").messages(), 3);
    }

    private static void messagesWithoutAProtocol() {
        report.sentence("Promise 4", "NONE when there is none");
        Probe x = new Probe();
        report.due("messages of a new object", x.messages(), NONE);
        x.typed("AB{p.e}");
        report.due("messages of what is typed only", x.messages(), NONE);
        report.due("define", x.define("!"), 7);
        report.due("messages behind a fault", x.messages(), NONE);
        report.due("define", x.define("AA{p.e}"), BAD);
        report.due("messages behind BAD", x.messages(), NONE);
        report.due("define", x.define("e"), NONE);
        report.due("messages of e", x.messages(), 0);
    }

    // Promise 5

    private static void lengthOfAPart() {
        report.sentence("Promise 5", "The number of characters of the role's part");
        Probe x = Probe.of("mX.AB{p.BC{q.X}}");
        report.due("length of A", x.length(A), "mX.B!{p.X}".length());
        report.due("length of B", x.length(B), "mX.A?{p.C!{q.X}}".length());
        report.due("length of C", x.length(C), "mX.B?{q.X}".length());
        report.due("length of D, the least", x.length(D), 1);
        report.due("the most", Probe.of(SIXTY).length(A), 60);
        report.due("one less", Probe.of("AB{p.".repeat(9) + "e" + "}".repeat(9)).length(A), 55);
        // The part is as it is written, wherever its role stands.
        Probe y = Probe.run("AB{p.e}").moved("A!p B?p");
        report.due("length behind a run", y.length(A), 7);
    }

    private static void lengthOfNone() {
        report.sentence("Promise 5", "NONE when there is no protocol, role is not 0 .. 3, or the part does not exist");
        for (int role = A; role <= D; role++) {
            Probe none = new Probe();
            report.due("no protocol, role " + role, none.length(role), NONE);
            none.define("AA{p.e}");
            report.due("no protocol behind BAD, role " + role, none.length(role), NONE);
            Probe missing = Probe.of(withoutThePartOf(role));
            for (int other = A; other <= D; other++) {
                report.due("the part of " + other, missing.length(other) == NONE, other == role);
            }
        }
        Probe x = Probe.of("AB{p.CD{q.e}}");
        for (int role : Probe.noRoles()) {
            report.due("length of role " + role, x.length(role), NONE);
        }
    }

    // Promise 6

    private static void charactersOfAPart() {
        report.sentence("Promise 6", "The code of character k of the role's part, from 0");
        Probe x = Probe.of("mX.AB{p.BC{q.X}}");
        report.due("character 0 of A", x.charAt(A, 0), 'm');
        report.due("character 1 of A", x.charAt(A, 1), 'X');
        report.due("the last character of A", x.charAt(A, 9), '}');
        report.due("the part of B", x.part(B), "mX.A?{p.C!{q.X}}");
        report.due("character 0 of D", x.charAt(D, 0), 'e');
        Probe full = Probe.of(SIXTY);
        report.due("character 0 of 60", full.charAt(B, 0), 'm');
        report.due("character 59 of 60", full.charAt(B, 59), '}');
    }

    private static void charactersOutside() {
        report.sentence("Promise 6", "NONE when there is no such part or character");
        Probe x = Probe.of("mX.AB{p.BC{q.X}}");
        int[] outside = {-1, 10, 11, 59, 60, 61, 65536, Integer.MIN_VALUE, Integer.MAX_VALUE};
        for (int k : outside) {
            report.due("character " + k + " of A, which has 10", x.charAt(A, k), NONE);
        }
        report.due("character 1 of D, which has 1", x.charAt(D, 1), NONE);
        for (int role : Probe.noRoles()) {
            report.due("character 0 of role " + role, x.charAt(role, 0), NONE);
        }
        Probe full = Probe.of(SIXTY);
        report.due("character -1 of 60", full.charAt(B, -1), NONE);
        report.due("character 60 of 60", full.charAt(B, 60), NONE);
        // Nothing of a longer part of before is there.
        report.due("define of e", full.define("e"), NONE);
        report.due("character 1 of e", full.charAt(B, 1), NONE);
        for (int role = A; role <= D; role++) {
            report.due("no protocol", new Probe().charAt(role, 0), NONE);
            Probe missing = Probe.of("AB{p.e}");
            report.due("define", missing.define(withoutThePartOf(role)), NONE);
            report.due("no part of " + role, missing.charAt(role, 0), NONE);
        }
    }

    // Promise 7

    private static void beginInPlaceOfAnother() {
        report.sentence("Promise 7", "A run begins, in place of an earlier one. Answers true");
        report.due("begin of e", Probe.of("e").begin(), true);
        Probe x = Probe.of(CHAIN);
        report.due("begin", x.begin(), true);
        String atFirst = x.everything();
        x.moved("A!p A!p A!p B?p B!q B?p C?q C!r B!q");
        report.due("begin in a run", x.begin(), true);
        report.due("all at first", x.everything(), atFirst);
        Probe y = Probe.run("AB{p.e}").moved("A!p B?p");
        report.due("begin behind the end", y.begin(), true);
        report.due("over", y.over(), false);
        report.due("it goes once more", y.moved("A!p B?p").over(), true);
        report.due("begin twice", y.begin() && y.begin(), true);
    }

    private static void beginRefused() {
        report.sentence("Promise 7", "false when there is no protocol, or the part of some role does not exist");
        Probe none = new Probe();
        report.due("begin of a new object", none.begin(), false);
        noRun("begin of a new object", none);
        none.define("X");
        report.due("begin behind BAD", none.begin(), false);
        none.define("AB{p.e");
        report.due("begin behind a fault", none.begin(), false);
        report.due("begin with a protocol typed only", none.typed("e").begin(), false);
        for (int role = A; role <= D; role++) {
            Probe x = Probe.of(withoutThePartOf(role));
            report.due("begin without the part of " + role, x.begin(), false);
            noRun("begin without the part of " + role, x);
        }
        report.due("begin without all four", Probe.of("CD{p.e,q.AB{p.CD{r.e},q.e}}").begin(), false);
    }

    // Promise 8

    private static void actOfARole() {
        report.sentence("Promise 8", "0 when the role has ended, 1 when it sends, 2 when it receives");
        Probe x = Probe.run("AB{p.BC{q.CD{r.DA{s.e}}}}");
        String[] moves = {"A!p", "B?p", "B!q", "C?q", "C!r", "D?r", "D!s", "A?s"};
        String[] acts = {"1222", "2222", "2122", "2022", "2012", "2002", "2001", "2000", "0000"};
        for (int n = 0; n < acts.length; n++) {
            String got = "" + x.act(A) + x.act(B) + x.act(C) + x.act(D);
            report.due("act behind " + n + " moves", got, acts[n]);
            if (n < moves.length) {
                x.moved(moves[n]);
            }
        }
        Probe e = Probe.run("e");
        report.due("act in e", "" + e.act(A) + e.act(B) + e.act(C) + e.act(D), "0000");
    }

    private static void actOfNone() {
        report.sentence("Promise 8", "NONE when there is no run or role is not 0 .. 3");
        for (Supplier<Probe> noRun : withoutARun()) {
            for (int role = A; role <= D; role++) {
                report.due("act without a run", noRun.get().act(role), NONE);
            }
        }
        Probe x = Probe.run(CHAIN);
        for (int role : Probe.noRoles()) {
            report.due("act of role " + role, x.act(role), NONE);
        }
    }

    // Promise 9

    private static void partnerOfARole() {
        report.sentence("Promise 9", "The role that this role sends to or receives from now");
        Probe x = Probe.run("AB{p.BC{q.CD{r.DA{s.e}}}}");
        report.due("partner of A", x.partner(A), B);
        report.due("partner of B", x.partner(B), A);
        report.due("partner of C", x.partner(C), B);
        report.due("partner of D", x.partner(D), C);
        x.moved("A!p");
        report.due("partner of A then", x.partner(A), D);
        report.due("partner of B still", x.partner(B), A);
        x.moved("B?p");
        report.due("partner of B then", x.partner(B), C);
    }

    private static void partnerOfNone() {
        report.sentence("Promise 9", "NONE when it has ended, there is no run or role is not 0 .. 3");
        Probe e = Probe.run("e");
        Probe done = Probe.run("AB{p.CD{q.e}}").moved("A!p B?p C!q D?q");
        for (int role = A; role <= D; role++) {
            report.due("partner in e", e.partner(role), NONE);
            report.due("partner at the end", done.partner(role), NONE);
        }
        for (Supplier<Probe> noRun : withoutARun()) {
            for (int role = A; role <= D; role++) {
                report.due("partner without a run", noRun.get().partner(role), NONE);
            }
        }
        Probe x = Probe.run(CHAIN);
        for (int role : Probe.noRoles()) {
            report.due("partner of role " + role, x.partner(role), NONE);
        }
    }

    // Promise 10

    private static void offersALabel() {
        report.sentence("Promise 10", "Whether the role offers the label now");
        Probe x = Probe.run("AB{p.BA{q.e},u.BA{r.e,s.e}}");
        report.due("A at first", x.offered(A), "pu");
        report.due("B at first", x.offered(B), "pu");
        report.due("C has ended", x.offered(C), "");
        x.moved("A!u");
        report.due("A behind u", x.offered(A), "rs");
        report.due("B still", x.offered(B), "pu");
        x.moved("B?u B!s");
        report.due("B at its end", x.offered(B), "");
        report.due("A offers r too, though s is on the way", x.offered(A), "rs");
    }

    private static void offersNone() {
        report.sentence("Promise 10", "false also when there is no run, role is not 0 .. 3 or label not 0 .. 5");
        for (Supplier<Probe> noRun : withoutARun()) {
            for (int role = A; role <= D; role++) {
                report.due("offers without a run", noRun.get().offered(role), "");
            }
        }
        Probe x = Probe.run("AB{p.CD{p.e},q.CD{p.e},r.CD{p.e},s.CD{p.e},u.CD{p.e}}");
        for (int role : Probe.noRoles()) {
            report.due("offers of role " + role, x.offers(role, P), false);
        }
        for (int label : Probe.noLabels()) {
            report.due("offers of A, label " + label, x.offers(A, label), false);
            report.due("offers of B, label " + label, x.offers(B, label), false);
        }
        // Numbers that would be a "{", a "," or another character of the part, counted from p.
        for (char c = 0; c < 128; c++) {
            boolean offered = "pqrsu".indexOf(c) >= 0;
            report.due("offers of A, '" + c + "'", x.offers(A, c - 'p'), offered);
        }
    }

    // Promise 11

    private static void sendIsTheLastOnTheWay() {
        report.sentence("Promise 11", "The role sends the label: it is the last one on the way to its partner then."
                + " Answers true");
        Probe x = Probe.run("mX.AB{p.AB{u.AC{q.AB{r.X}}}}");
        report.due("send with 0 on the way", x.send(A, P), true);
        report.due("the row", x.row(A, B), "p---");
        report.due("send with 1 on the way", x.send(A, U), true);
        report.due("the row", x.row(A, B), "pu--");
        report.due("send to another partner", x.send(A, Q), true);
        report.due("the row to C", x.row(A, C), "q---");
        report.due("the row to B still", x.row(A, B), "pu--");
        report.due("send with 2 on the way", x.send(A, R), true);
        report.due("the row", x.row(A, B), "pur-");
        report.due("the row back", x.row(B, A), "----");
        report.due("moves", x.moves(), 4);
    }

    private static void sendWithoutARun() {
        report.sentence("Promise 11", "false when there is no run");
        for (Supplier<Probe> noRun : withoutARun()) {
            for (int role = A; role <= D; role++) {
                for (int label = P; label <= U; label++) {
                    report.due("send without a run", noRun.get().send(role, label), false);
                }
            }
        }
    }

    private static void sendOfNoRole() {
        report.sentence("Promise 11", "role is not 0 .. 3");
        Probe x = Probe.run("AB{p.CD{p.e}}");
        for (int role : Probe.noRoles()) {
            report.due("send of role " + role, x.send(role, P), false);
        }
        report.due("moves", x.moves(), 0);
        report.due("send of role 0", x.send(0, P), true);
        Probe y = Probe.run("DA{p.e}");
        report.due("send of role 3", y.send(3, P), true);
    }

    private static void sendOfARoleThatDoesNot() {
        report.sentence("Promise 11", "it does not send");
        Probe x = Probe.run("AB{p.e}");
        report.due("B receives and offers p", x.send(B, P), false);
        report.due("C has ended", x.send(C, P), false);
        x.moved("A!p");
        report.due("A has ended", x.send(A, P), false);
        report.due("B receives, and p is on the way", x.send(B, P), false);
        x.moved("B?p");
        report.due("B has ended", x.send(B, P), false);
    }

    private static void sendOfALabelNotOffered() {
        report.sentence("Promise 11", "it does not offer the label");
        Probe x = Probe.run("AB{q.AB{s.e},t.AB{p.e}}");
        for (int label : Probe.noLabels()) {
            report.due("send of label " + label, x.send(A, label), false);
        }
        int[] later = {P, R, S, U};
        for (int label : later) {
            report.due("send of label " + label, x.send(A, label), false);
        }
        report.due("moves", x.moves(), 0);
        report.due("the first branch", x.send(A, Q), true);
        report.due("the label of before", x.send(A, Q), false);
        report.due("the label of now", x.send(A, S), true);
        report.due("the last branch", Probe.run("AB{q.AB{s.e},t.AB{p.e}}").send(A, Probe.T), true);
    }

    private static void sendWithThreeOnTheWay() {
        report.sentence("Promise 11", "or 3 are on the way to its partner");
        Probe x = Probe.run("mX.AB{p.AC{q.X}}");
        report.due("with 0", x.send(A, P), true);
        x.moved("A!q");
        report.due("with 1", x.send(A, P), true);
        x.moved("A!q C?q");
        report.due("with 2", x.send(A, P), true);
        report.due("3 to B do not stop what goes to C", x.send(A, Q), true);
        report.due("with 3", x.send(A, P), false);
        report.due("with 3 again", x.send(A, P), false);
        x.moved("C?q C?q");
        report.due("C has taken all, B none", x.send(A, P), false);
        x.moved("B?p");
        report.due("with 2 again", x.send(A, P), true);
        report.due("moves", x.moves(), 11);
        // Three on the way to the sender, or from others to its partner, do not stop it.
        Probe y = Probe.run("mX.AB{p.BA{q.X}}").moved("A!p B?p");
        report.due("B sends though A is to receive", y.send(B, Q), true);
        Probe z = Probe.run("CB{p.CB{p.CB{p.AB{q.BA{r.e}}}}}").moved("C!p C!p C!p");
        report.due("3 are on the way from C to B", z.send(A, Q), true);
    }

    // Promise 12

    private static void receiveTheFirstOnTheWay() {
        report.sentence("Promise 12", "The role receives the first label that is on the way from its partner: that label"
                + " is on the way no longer. Answers it");
        Probe x = Probe.run("mX.AB{p.X,q.X,u.X}").moved("A!u A!p A!q");
        report.due("receive with 3 on the way", x.receive(B), U);
        report.due("the row", x.row(A, B), "pq--");
        report.due("receive with 2 on the way", x.receive(B), P);
        report.due("the row", x.row(A, B), "q---");
        report.due("receive with 1 on the way", x.receive(B), Q);
        report.due("the row", x.row(A, B), "----");
        report.due("moves", x.moves(), 6);
    }

    private static void receiveWithoutARun() {
        report.sentence("Promise 12", "NONE when there is no run");
        for (Supplier<Probe> noRun : withoutARun()) {
            for (int role = A; role <= D; role++) {
                report.due("receive without a run", noRun.get().receive(role), NONE);
            }
        }
    }

    private static void receiveOfNoRole() {
        report.sentence("Promise 12", "role is not 0 .. 3");
        Probe x = Probe.run("AB{p.BA{q.CD{p.e}}}").moved("A!p C!p");
        for (int role : Probe.noRoles()) {
            report.due("receive of role " + role, x.receive(role), NONE);
        }
        report.due("moves", x.moves(), 2);
        report.due("receive of role 3", x.receive(3), P);
        x.moved("B?p B!q");
        report.due("receive of role 0", x.receive(0), Q);
    }

    private static void receiveOfARoleThatDoesNot() {
        report.sentence("Promise 12", "it does not receive");
        Probe x = Probe.run("AB{p.CA{q.e}}");
        report.due("A sends", x.receive(A), NONE);
        x.moved("C!q");
        report.due("A sends to B, and q is on the way from C", x.receive(A), NONE);
        report.due("C has ended", x.receive(C), NONE);
        report.due("D has ended", x.receive(D), NONE);
        report.due("q is on the way still", x.row(C, A), "q---");
        report.due("moves", x.moves(), 1);
    }

    private static void receiveWithNoneOnTheWay() {
        report.sentence("Promise 12", "or none is on the way from its partner");
        Probe x = Probe.run("AB{p.CB{q.e}}");
        report.due("none is on the way", x.receive(B), NONE);
        x.moved("C!q");
        report.due("one is on the way from C, but A is the partner", x.receive(B), NONE);
        x.moved("A!p");
        report.due("one is on the way from A", x.receive(B), P);
        report.due("one is on the way from C, the partner then", x.receive(B), Q);
        report.due("B has ended", x.receive(B), NONE);
        Probe y = Probe.run("mX.AB{p.X}").moved("A!p B?p");
        report.due("the row is empty again", y.receive(B), NONE);
    }

    // Promise 13

    private static void onTheWayCounts() {
        report.sentence("Promise 13", "How many labels are on the way from one role to another");
        String roles = "ABCD";
        for (int from = A; from <= D; from++) {
            for (int to = A; to <= D; to++) {
                if (from != to) {
                    countRow("" + roles.charAt(from) + roles.charAt(to), from, to);
                }
            }
        }
    }

    private static void countRow(String roles, int from, int to) {
        Probe x = Probe.run("mX." + roles + "{p.X}");
        for (int count = 0; count <= 3; count++) {
            for (int a = A; a <= D; a++) {
                for (int b = A; b <= D; b++) {
                    int due = a == from && b == to ? count : 0;
                    report.due("onTheWay with " + count + " of " + roles, x.onTheWay(a, b), due);
                }
            }
            report.due("send with " + count + " of " + roles, x.send(from, P), count < 3);
        }
    }

    private static void onTheWayOfNone() {
        report.sentence("Promise 13", "NONE when there is no run, or one of them is not 0 .. 3");
        for (Supplier<Probe> noRun : withoutARun()) {
            Probe x = noRun.get();
            for (int from = A; from <= D; from++) {
                for (int to = A; to <= D; to++) {
                    report.due("onTheWay without a run", x.onTheWay(from, to), NONE);
                }
            }
        }
        Probe x = Probe.run("mX.AB{p.X}").moved("A!p A!p");
        for (int role : Probe.noRoles()) {
            for (int other = A; other <= D; other++) {
                report.due("onTheWay from " + role + " to " + other, x.onTheWay(role, other), NONE);
                report.due("onTheWay from " + other + " to " + role, x.onTheWay(other, role), NONE);
            }
            report.due("onTheWay from " + role + " to itself", x.onTheWay(role, role), NONE);
        }
        // In one row of all pairs these would be the place of the pair A, B.
        report.due("onTheWay from 1 to -3", x.onTheWay(1, -3), NONE);
        report.due("onTheWay from -1 to 5", x.onTheWay(-1, 5), NONE);
    }

    private static void onTheWayToItself() {
        report.sentence("Promise 13", "(From a role to itself 0.)");
        Probe x = Probe.run(CHAIN);
        for (String move : "A!p A!p A!p B?p B!q B?p C?q C!r B!q D?r".split(" ")) {
            for (int role = A; role <= D; role++) {
                report.due("onTheWay before " + move, x.onTheWay(role, role), 0);
            }
            x.moved(move);
        }
    }

    // Promise 14

    private static void labelAtInOrder() {
        report.sentence("Promise 14", "The label that is on the way from one role to another as number k, 0 being the one"
                + " that was sent first");
        Probe x = Probe.run("mX.DC{p.X,s.X,u.X}").moved("D!u D!p D!s");
        report.due("number 0", x.labelAt(D, C, 0), U);
        report.due("number 1", x.labelAt(D, C, 1), P);
        report.due("number 2", x.labelAt(D, C, 2), S);
        x.moved("C?u");
        report.due("number 0 then", x.labelAt(D, C, 0), P);
        report.due("number 1 then", x.labelAt(D, C, 1), S);
        report.due("number 2 then", x.labelAt(D, C, 2), NONE);
        x.moved("D!u");
        report.due("number 2 again", x.labelAt(D, C, 2), U);
    }

    private static void labelAtOfNone() {
        report.sentence("Promise 14", "NONE when there is none");
        for (Supplier<Probe> noRun : withoutARun()) {
            Probe x = noRun.get();
            for (int from = A; from <= D; from++) {
                for (int to = A; to <= D; to++) {
                    report.due("labelAt without a run", x.labelAt(from, to, 0), NONE);
                }
            }
        }
        int[] outside = {-1, -2, 3, 4, 65536, Integer.MIN_VALUE, Integer.MAX_VALUE};
        Probe full = Probe.run("mX.AB{p.X}").moved("A!p A!p A!p");
        for (int k : outside) {
            report.due("number " + k + " of 3", full.labelAt(A, B, k), NONE);
        }
        report.due("number 0 of 0", full.labelAt(B, A, 0), NONE);
        for (int role = A; role <= D; role++) {
            report.due("number 0 to itself", full.labelAt(role, role, 0), NONE);
        }
        for (int role : Probe.noRoles()) {
            report.due("labelAt from " + role, full.labelAt(role, B, 0), NONE);
            report.due("labelAt to " + role, full.labelAt(A, role, 0), NONE);
        }
        report.due("labelAt from 1 to -3", full.labelAt(1, -3, 0), NONE);
        report.due("labelAt from -1 to 5", full.labelAt(-1, 5, 0), NONE);
        Probe x = Probe.run("mX.AB{p.X}").moved("A!p A!p A!p B?p");
        report.due("number 2 of 2", x.labelAt(A, B, 2), NONE);
        x.moved("B?p B?p");
        report.due("number 0 of 0 behind 3", x.labelAt(A, B, 0), NONE);
    }

    // Promise 15

    private static void movesOfARun() {
        report.sentence("Promise 15", "The number of labels sent and received in the run so far");
        Probe x = Probe.run("mX.AB{p.X}");
        report.due("moves at first", x.moves(), 0);
        for (int n = 0; n < 100; n++) {
            x.moved("A!p");
            report.due("moves behind a send", x.moves(), 2 * n + 1);
            x.moved("B?p");
            report.due("moves behind a receive", x.moves(), 2 * n + 2);
        }
        report.due("a receive that is refused", x.receive(B), NONE);
        report.due("a send that is refused", x.send(A, Q), false);
        report.due("moves", x.moves(), 200);
        report.due("begin", x.begin(), true);
        report.due("moves of another run", x.moves(), 0);
    }

    private static void movesOfNone() {
        report.sentence("Promise 15", "NONE when there is no run");
        for (Supplier<Probe> noRun : withoutARun()) {
            report.due("moves without a run", noRun.get().moves(), NONE);
        }
    }

    // Promise 16

    private static void readySenders() {
        report.sentence("Promise 16", "they send and fewer than 3 are on the way to their partner");
        Probe x = Probe.run("AB{p.AB{p.AB{p.AB{p.AB{p.e}}}}}");
        report.due("with 0", x.ready(), 1);
        x.moved("A!p B?p");
        report.due("with 0 again", x.ready(), 1);
        x.moved("A!p");
        report.due("with 1, and B receives", x.ready(), 2);
        x.moved("A!p");
        report.due("with 2, and B receives", x.ready(), 2);
        x.moved("A!p");
        report.due("with 3, B alone", x.ready(), 1);
        x.moved("B?p");
        report.due("with 2 again, and B", x.ready(), 2);
        x.moved("A!p");
        report.due("A has ended, B alone", x.ready(), 1);
        // The 3 are on the way to another than the partner.
        Probe y = Probe.run("AB{p.AB{p.AB{p.AC{q.e}}}}").moved("A!p A!p A!p");
        report.due("3 to B, and A sends to C", y.ready(), 2);
    }

    private static void readyReceivers() {
        report.sentence("Promise 16", "or receive and the first label on the way from their partner is one they offer");
        Probe x = Probe.run("AB{p.CB{q.e}}");
        report.due("A and C send, B has none", x.ready(), 2);
        x.moved("C!q");
        report.due("A sends, what is there for B is from C", x.ready(), 1);
        x.moved("A!p");
        report.due("B has p", x.ready(), 1);
        x.moved("B?p");
        report.due("B has q", x.ready(), 1);
        x.moved("B?q");
        report.due("all have ended", x.ready(), 0);
        // The first label counts, not a later one; all six can be the first.
        for (int label = P; label <= U; label++) {
            Probe y = Probe.run("AB{p.e,q.e,r.e,s.e,t.e,u.e}");
            report.due("send of " + label, y.send(A, label), true);
            report.due("B has " + label, y.ready(), 1);
        }
    }

    private static void readyFromNoneToFour() {
        report.sentence("Promise 16", "How many roles can go on");
        report.due("none in e", Probe.run("e").ready(), 0);
        report.due("one of four", Probe.run(CHAIN).ready(), 1);
        Probe x = Probe.run("mX.AB{p.CD{q.X}}");
        report.due("two of four", x.ready(), 2);
        x.moved("A!p");
        report.due("three of four", x.ready(), 3);
        x.moved("C!q");
        report.due("all four", x.ready(), 4);
        x.moved("A!p A!p");
        report.due("all but A", x.ready(), 3);
        x.moved("C!q C!q");
        report.due("all but A and C", x.ready(), 2);
        // The last role alone.
        Probe y = Probe.run("AD{p.e}");
        report.due("A alone", y.ready(), 1);
        report.due("D alone", y.moved("A!p").ready(), 1);
        report.due("none", y.moved("D?p").ready(), 0);
    }

    private static void readyOfNone() {
        report.sentence("Promise 16", "NONE when there is no run");
        for (Supplier<Probe> noRun : withoutARun()) {
            report.due("ready without a run", noRun.get().ready(), NONE);
        }
    }

    // Promise 17

    private static void overWithAllEnded() {
        report.sentence("Promise 17", "Whether there is a run in which all roles have ended and nothing is on the way");
        report.due("e", Probe.run("e").over(), true);
        report.due("loops alone", Probe.run("mX.mY.e").over(), true);
        Probe x = Probe.run("AB{p.BC{q.CD{r.e}}}");
        for (String move : "A!p B?p B!q C?q C!r D?r".split(" ")) {
            report.due("over before " + move, x.over(), false);
            x.moved(move);
        }
        report.due("over at the end", x.over(), true);
        report.due("over asked again", x.over(), true);
    }

    private static void overWithOneNotEnded() {
        report.sentence("Promise 17", "all roles have ended and nothing is on the way");
        String roles = "ABCD";
        for (int last = A; last <= D; last++) {
            int from = (last + 1) % 4;
            Probe x = Probe.run("" + roles.charAt(from) + roles.charAt(last) + "{p.e}");
            report.due("none has ended of the two", x.over(), false);
            report.due("send", x.send(from, P), true);
            report.due("role " + last + " has not ended, and p is on the way", x.over(), false);
            report.due("receive", x.receive(last), P);
            report.due("all have ended", x.over(), true);
            // Nothing is on the way, but the roles of a loop do not end.
            Probe y = Probe.run("mX." + roles.charAt(from) + roles.charAt(last) + "{p.X}");
            report.due("send", y.send(from, P), true);
            report.due("receive", y.receive(last), P);
            report.due("a loop is not over", y.over(), false);
        }
    }

    private static void overOfNone() {
        report.sentence("Promise 17", "Whether there is a run");
        for (Supplier<Probe> noRun : withoutARun()) {
            report.due("over without a run", noRun.get().over(), false);
        }
        report.due("over of e without a run", Probe.of("e").over(), false);
        Probe x = Probe.run("e");
        report.due("define of e", x.define("e"), NONE);
        report.due("over of e when its run is gone", x.over(), false);
    }

    // What the tests are made of

    /** A protocol in which this role alone has no part: what the first role tells it hangs on a choice. */
    private static String withoutThePartOf(int role) {
        String roles = "ABCD";
        char from = roles.charAt((role + 1) % 4);
        char to = roles.charAt((role + 2) % 4);
        return "" + from + to + "{p." + from + roles.charAt(role) + "{r.e},q.e}";
    }

    /** The states without a run, also those with what is left of one that was there. */
    private static List<Supplier<Probe>> withoutARun() {
        return List.of(
                Probe::new,
                () -> Probe.of("e"),
                () -> Probe.of(CHAIN),
                () -> refusedBegin(Probe.of(withoutThePartOf(D))),
                () -> defined(Probe.run(CHAIN).moved("A!p A!p B?p B!q"), CHAIN),
                () -> defined(Probe.run("AB{p.e}").moved("A!p B?p"), "AB{p.e}"),
                () -> refusedBegin(defined(Probe.run(CHAIN).moved("A!p A!p"), withoutThePartOf(C))));
    }

    private static Probe defined(Probe x, String protocol) {
        report.due("define of " + protocol, x.define(protocol), NONE);
        return x;
    }

    private static Probe refusedBegin(Probe x) {
        report.due("begin without a part", x.begin(), false);
        return x;
    }

    private static void noRun(String what, Probe x) {
        report.due(what + ", moves", x.moves(), NONE);
        report.due(what + ", ready", x.ready(), NONE);
        report.due(what + ", over", x.over(), false);
        for (int role = A; role <= D; role++) {
            report.due(what + ", act", x.act(role), NONE);
            report.due(what + ", partner", x.partner(role), NONE);
            report.due(what + ", offers", x.offered(role), "");
            report.due(what + ", send", x.send(role, P), false);
            report.due(what + ", receive", x.receive(role), NONE);
            for (int to = A; to <= D; to++) {
                report.due(what + ", onTheWay", x.onTheWay(role, to), NONE);
                report.due(what + ", labelAt", x.labelAt(role, to, 0), NONE);
            }
        }
    }

    private static void parts(String what, Probe x, int messages, String... due) {
        report.due(what + ", messages", x.messages(), messages);
        for (int role = A; role <= D; role++) {
            report.due(what + ", the part of role " + role, x.part(role), due[role]);
        }
    }
}
