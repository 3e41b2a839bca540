/**
 * The terms of the document, sentence by sentence: for each one that names a boundary case the last
 * case within and the first one outside.
 */
public final class TermsTest {
    private static final int NONE = Probe.NONE;
    private static final int BAD = Probe.BAD;
    private static final int A = Probe.A;
    private static final int B = Probe.B;
    private static final int C = Probe.C;
    private static final int D = Probe.D;

    /** What a protocol can begin with. */
    private static final String BEGINS = "emXYZABCD";
    private static final String LABELS = "pqrstu";

    /** A sound protocol of just 60 characters, in which C and D have no part. */
    private static final String SIXTY = "mX.AB{p.AB{p.AB{p.AB{p.AB{p.AB{p.AB{p.AB{p.e,q.e,r.X}}}}}}}}";

    private static final Report report = new Report();

    public static void main(String[] args) {
        report.runAll(
                TermsTest::callsOfAnObject,
                TermsTest::roles,
                TermsTest::labels,
                TermsTest::variables,
                TermsTest::lengthOfTheText,
                TermsTest::codesOfTheText,
                TermsTest::placesOfTheText,
                TermsTest::formsOfAProtocol,
                TermsTest::formOfAMessage,
                TermsTest::noSpaces,
                TermsTest::firstFault,
                TermsTest::faultAtTheEnd,
                TermsTest::emptyText,
                TermsTest::returnInALoop,
                TermsTest::messageBetween,
                TermsTest::loopInALoop,
                TermsTest::rolesOfAMessage,
                TermsTest::labelsOfAMessage,
                TermsTest::partOfEndAndReturn,
                TermsTest::partOfALoopThatDoesNotExist,
                TermsTest::partOfALoopThatIsJustItsVariable,
                TermsTest::partOfALoopWithoutItsVariable,
                TermsTest::partOfALoopOtherwise,
                TermsTest::partsOfTheTwoRoles,
                TermsTest::partsOfTheTwoRolesMustExist,
                TermsTest::partOfAnotherRole,
                TermsTest::partOfAnotherRoleInOneBranchAndInSix,
                TermsTest::standsAtItsBeginning,
                TermsTest::goesOnBehindALoop,
                TermsTest::goesBackToTheLoop,
                TermsTest::goesBackToTheLoopAround,
                TermsTest::standsAtEndSendOrReceive,
                TermsTest::labelsOfTheBranchesThere,
                TermsTest::atMostThreeOnTheWay,
                TermsTest::noneOnTheWayAtFirst,
                TermsTest::goesOnBehindTheLabel);
    }

    // What it is

    private static void callsOfAnObject() {
        report.sentence("What it is", "An object is used for at most 512 calls after it has been made");
        Probe x = Probe.run("mX.AB{p.X}");
        // 12 calls are made, and the last one is the 512th.
        for (int n = 0; n < 249; n++) {
            x.moved("A!p B?p");
        }
        report.due("call 511, send", x.send(A, Probe.P), true);
        report.due("call 512, moves", x.moves(), 499);

        report.sentence("What it is", "what later calls answer is free");
        RoleParts y = x.inside();
        // Free is the answer, but LANGUAGE.md lets no call throw.
        for (int n = 0; n < 2000; n++) {
            y.type((char) (32 + n % 95));
            y.send(n % 6 - 1, n % 8 - 1);
            y.receive(n % 6 - 1);
            y.ready();
            if (n % 70 == 0) {
                y.define();
                y.begin();
            }
        }
        report.due("calls behind the 512th end", true, true);
    }

    // ROLES, LABELS, VARIABLES, the TEXT

    private static void roles() {
        report.sentence("Terms", "ROLES are 0 .. 3, written A .. D");
        String roles = "ABCD";
        for (int from = A; from <= D; from++) {
            for (int to = A; to <= D; to++) {
                String text = "" + roles.charAt(from) + roles.charAt(to) + "{p.e}";
                due(text, from == to ? BAD : NONE);
                if (from != to) {
                    Probe x = Probe.run(text);
                    report.due("partner of the sender in " + text, x.partner(from), to);
                    report.due("partner of the receiver in " + text, x.partner(to), from);
                }
            }
        }
        due("@B{p.e}", 0);
        due("EB{p.e}", 0);
        due("aB{p.e}", 0);
        due("A@{p.e}", 1);
        due("AE{p.e}", 1);
        due("Ab{p.e}", 1);
    }

    private static void labels() {
        report.sentence("Terms", "LABELS 0 .. 5, written p .. u");
        for (int label = 0; label < LABELS.length(); label++) {
            String text = "AB{" + LABELS.charAt(label) + ".e}";
            Probe x = Probe.run(text);
            report.due("labels offered in " + text, x.offered(A), "" + LABELS.charAt(label));
            report.due("send in " + text, x.send(A, label), true);
            report.due("labelAt in " + text, x.labelAt(A, B, 0), label);
            report.due("receive in " + text, x.receive(B), label);
        }
        due("AB{o.e}", 3);
        due("AB{v.e}", 3);
        due("AB{P.e}", 3);
        due("AB{p.e,o.e}", 7);
        due("AB{p.e,v.e}", 7);
    }

    private static void variables() {
        report.sentence("Terms", "VARIABLES are X, Y, Z");
        for (char c : "XYZ".toCharArray()) {
            due("" + c, BAD);
            due("m" + c + ".e", NONE);
            due("m" + c + ".AB{p." + c + "}", NONE);
        }
        due("W", 0);
        due("[", 0);
        due("x", 0);
        due("mW.e", 1);
        due("m[.e", 1);
        due("mx.e", 1);
    }

    private static void lengthOfTheText() {
        report.sentence("Terms", "The TEXT is a row of at most 60 characters");
        report.due("the length of the text of this test", SIXTY.length(), 60);
        due(SIXTY, NONE);
        due(SIXTY.substring(0, 59), 59);
        Probe x = new Probe().typed(SIXTY.substring(0, 59));
        report.due("type as the 60th character", x.type('}'), true);
        report.due("type as the 61st character", x.type('}'), false);
        report.due("define of 60 characters", x.define(), NONE);
        report.due("the part of B, as long as the text", x.length(B), 60);

        // The 61st character would make it a protocol.
        String open = "AB{p.".repeat(9) + "mX.mY.e" + "}".repeat(8);
        report.due("the length of the text of this test", open.length(), 60);
        Probe y = new Probe().typed(open);
        report.due("type as the 61st character", y.type('}'), false);
        report.due("define of 60 characters that are the beginning of a longer one", y.define(), 60);
    }

    private static void codesOfTheText() {
        report.sentence("Terms", "with codes 32 .. 126");
        for (int code = 0; code < 300; code++) {
            report.due("type of code " + code, new Probe().type((char) code), code >= 32 && code <= 126);
        }
        // The low byte alone would be an e.
        for (int high = 1; high < 256; high++) {
            report.due("type of code " + (high * 256 + 'e'), new Probe().type((char) (high * 256 + 'e')), false);
        }
        report.due("type of code 65535", new Probe().type((char) 65535), false);
    }

    private static void placesOfTheText() {
        report.sentence("Terms", "typed one by one; places count from 0");
        due(" ", 0);
        due("e ", 1);
        for (int k = 0; k < 60; k++) {
            due(SIXTY.substring(0, k) + " " + SIXTY.substring(k + 1), k);
        }
    }

    // What a PROTOCOL is

    private static void formsOfAProtocol() {
        report.sentence("Terms", "A PROTOCOL is written as one of these");
        due("e", NONE);
        due("X", BAD);
        due("mX.e", NONE);
        due("AB{p.e}", NONE);
        // Each form has its characters and no others: here what may stand at each place.
        faultsAt("mX.AB{p.e,q.X}", BEGINS, "XYZ", ".", BEGINS, "ABCD", "{", LABELS, ".", BEGINS, ",}", LABELS, ".",
                BEGINS, ",}", "");
        faultsAt("AB{p.CD{q.e},r.mZ.e}", BEGINS, "ABCD", "{", LABELS, ".", BEGINS, "ABCD", "{", LABELS, ".", BEGINS,
                ",}", ",}", LABELS, ".", BEGINS, "XYZ", ".", BEGINS, ",}", "");
        faultsAt("mX.mY.mZ.e", BEGINS, "XYZ", ".", BEGINS, "XYZ", ".", BEGINS, "XYZ", ".", BEGINS, "");
    }

    private static void formOfAMessage() {
        report.sentence("Terms", "one or more BRANCHES with commas between them, each a label, a point, and what follows");
        due("AB{}", 3);
        due("AB{p.e}", NONE);
        due("AB{p.e,q.e}", NONE);
        due("AB{p.e,q.e,r.e,s.e,t.e,u.e}", NONE);
        due("AB{,p.e}", 3);
        due("AB{p.e,}", 7);
        due("AB{p.e,,q.e}", 7);
        due("AB{p.eq.e}", 6);
        due("AB{.e}", 3);
        due("ABp.e}", 2);
        due("AB{pe}", 4);
        due("AB{p}", 4);
        due("AB{p.}", 5);
        due("AB{p.,q.e}", 5);
        due("AB{p.e", 6);
        due("AB{p.e}}", 7);

        report.sentence("Terms", "(Any roles, any labels.)");
        due("DA{u.e,p.e}", NONE);
        // Not sound, but a protocol.
        due("AA{p.e}", BAD);
        due("AB{p.e,p.e}", BAD);
        // 14 branches are the most that 60 characters hold.
        due("AB{p.e,q.e,r.e,s.e,t.e,u.e,p.e,q.e,r.e,s.e,t.e,u.e,p.e,q.e}", BAD);
    }

    private static void noSpaces() {
        report.sentence("Terms", "No spaces.");
        String text = "mX.AB{p.CD{q.e},r.X}";
        due(text, NONE);
        for (int k = 0; k <= text.length(); k++) {
            due(text.substring(0, k) + " " + text.substring(k), k);
        }
    }

    // The FAULT

    private static void firstFault() {
        report.sentence("Terms", "The FAULT of a text is the place of the first character with which the text up to"
                + " and with it is not the beginning of any protocol");
        due("!", 0);
        due("!e", 0);
        due("e!", 1);
        due("!!", 0);
        due("AB{p.e}e", 7);
        due("AB{p.!,q.!}", 5);
        due("ee", 1);
        due("e}", 1);
        due("e,e", 1);
        due("X}", 1);
        due("mX.e}", 4);
        due("mX.mY.", 6);
        due("AB{p.e}}}", 7);
        // The first and the last place of a full text, and what stands behind is not read.
        due("!" + SIXTY.substring(1), 0);
        due(SIXTY.substring(0, 59) + "!", 59);
        due("e" + SIXTY.substring(1), 1);
        // What is not sound is no fault, and a fault goes before it.
        due("AA{p.e,p.X}", BAD);
        due("AA{p.e,p.X}!", 11);
        due("AA{p.e,p.X", 10);
        due("mX.mX.X", BAD);
        due("mX.mX.XX", 7);
    }

    private static void faultAtTheEnd() {
        report.sentence("Terms", "the length of the text, when there is none but the text is no protocol");
        String[] protocols = {SIXTY, "AB{p.CD{q.e},r.mZ.e}", "AB{p.e,q.e,r.e,s.e,t.e,u.e}"};
        for (String protocol : protocols) {
            for (int length = 0; length < protocol.length(); length++) {
                due(protocol.substring(0, length), length);
            }
            due(protocol, NONE);
        }
        due("m", 1);
        due("mX", 2);
        due("mX.", 3);
        due("mX.e", NONE);
        // 60 characters, none of them a fault, and no protocol.
        due("mY." + SIXTY.substring(0, 57), 60);
        due("mX.".repeat(20), 60);
        due("AB{p.".repeat(12), 60);
        due("AB{p." + "AB{p.".repeat(10) + "mX.e}", 60);
    }

    private static void emptyText() {
        report.sentence("Terms", "(So the empty text has the fault 0.)");
        due("", 0);
        Probe x = Probe.of("e");
        report.due("define behind define", x.define(), 0);
    }

    // When a protocol is SOUND

    private static void returnInALoop() {
        report.sentence("Terms", "every return is in the body of a loop with its variable");
        for (char c : "XYZ".toCharArray()) {
            due("" + c, BAD);
            due("AB{p." + c + "}", BAD);
            due("AB{p.e,q." + c + "}", BAD);
            for (char d : "XYZ".toCharArray()) {
                due("m" + d + ".AB{p." + c + "}", c == d ? NONE : BAD);
                due("m" + d + ".AB{p.e,q.CD{r." + c + "}}", c == d ? NONE : BAD);
            }
        }
        due("mX.mY.mZ.AB{p.X,q.Y,r.Z}", NONE);
        due("mX.mY.AB{p.X,q.Y,r.Z}", BAD);
        // A loop in one branch has no other branch in its body.
        due("AB{p.mX.AB{p.X},q.e}", NONE);
        due("AB{p.mX.AB{p.X},q.X}", BAD);
        due("AB{p.X,q.mX.AB{p.X}}", BAD);
        due("AB{p.mX.AB{p.X},q.AB{p.X}}", BAD);
        due("AB{p.mX.e,q.AB{p.X}}", BAD);
        due("mY.AB{p.mX.AB{p.Y},q.AB{p.X}}", BAD);
        due("mX.AB{p.mY.AB{p.Y},q.X}", NONE);
        due("mX.AB{p.mY.AB{p.Y},q.Y}", BAD);
        due("mX.AB{p.mY.AB{p.Y},q.CD{p.Y}}", BAD);
        due("AB{p.CD{q.mX.CD{r.X}},s.CD{q.X}}", BAD);
    }

    private static void messageBetween() {
        report.sentence("Terms", "with at least one message between that has the return inside one of its branches"
                + " and is itself inside the body");
        due("mX.X", BAD);
        due("mX.AB{p.X}", NONE);
        due("mX.AB{p.CD{q.X}}", NONE);
        due("mX.AB{p.e,q.X}", NONE);
        due("mX.AB{p.X,q.e}", NONE);
        due("mX.AB{p.e,q.e,r.e,s.e,t.e,u.X}", NONE);
        // A loop between is no message.
        due("mX.mY.X", BAD);
        due("mX.mY.mZ.X", BAD);
        due("mX.mY.AB{p.X}", NONE);
        due("mX.AB{p.mY.X}", NONE);
        // The message is around the loop, not inside its body.
        due("AB{p.mX.X}", BAD);
        due("AB{p.mX.X,q.e}", BAD);
        due("mY.AB{p.mX.X}", BAD);
        due("mX.AB{p.mY.Y}", BAD);
        due("mX.AB{p.mY.mZ.Y}", BAD);
        due("mX.AB{p.mY.CD{q.Y}}", NONE);
        // The message is inside the body, but another return has it around itself.
        due("mX.AB{p.X,q.mY.Y}", BAD);
        due("AB{p.mX.AB{q.X},r.mX.X}", BAD);
        due("AB{p.mX.X,r.mX.AB{q.X}}", BAD);
    }

    private static void loopInALoop() {
        report.sentence("Terms", "no loop is in the body of a loop with the same variable");
        for (char c : "XYZ".toCharArray()) {
            due("m" + c + ".m" + c + ".e", BAD);
            due("m" + c + ".AB{p.m" + c + ".e}", BAD);
            due("m" + c + ".AB{p.e,q.m" + c + ".e}", BAD);
            due("m" + c + ".AB{p.CD{q.m" + c + ".e}}", BAD);
        }
        due("mX.mY.e", NONE);
        due("mX.mY.mZ.e", NONE);
        due("mX.mY.mX.e", BAD);
        due("mX.mY.mY.e", BAD);
        due("mX.mY.mZ.mX.e", BAD);
        due("mX.mY.AB{p.mZ.AB{q.mX.e}}", BAD);
        due("mX.AB{p.mY.e,q.mX.e}", BAD);
        // Beside one another they are not in one another's body.
        due("AB{p.mX.e,q.mX.e}", NONE);
        due("AB{p.mX.AB{p.X},q.mX.AB{p.X}}", NONE);
        due("AB{p.mX.mY.e,q.mY.mX.e}", NONE);
        due("mZ.AB{p.mX.e,q.mX.e,r.mY.e}", NONE);
        due("AB{p.CD{q.mX.e},r.mX.e}", NONE);
    }

    private static void rolesOfAMessage() {
        report.sentence("Terms", "the two roles of each message are different");
        String[] same = {"AA", "BB", "CC", "DD"};
        for (String roles : same) {
            due(roles + "{p.e}", BAD);
            due("AB{p." + roles + "{p.e}}", BAD);
            due("AB{p.e,q." + roles + "{p.e}}", BAD);
            due("AB{p.CD{p.e},q." + roles + "{p.e}}", BAD);
            due(roles + "{p.AB{p.e}}", BAD);
            due("mX." + roles + "{p.X}", BAD);
        }
        due("AB{p.BA{p.e}}", NONE);
        due("AB{p.AB{p.e}}", NONE);
    }

    private static void labelsOfAMessage() {
        report.sentence("Terms", "and so are the labels of its branches");
        for (char c : LABELS.toCharArray()) {
            due("AB{" + c + ".e," + c + ".e}", BAD);
            due("AB{" + c + ".AB{" + c + ".e}}", NONE);
        }
        due("AB{p.e,q.e,p.e}", BAD);
        due("AB{q.e,p.e,p.e}", BAD);
        due("AB{p.e,q.e,r.e,s.e,t.e,u.e}", NONE);
        due("AB{u.e,t.e,s.e,r.e,q.e,p.e}", NONE);
        for (char c : LABELS.toCharArray()) {
            due("AB{p.e,q.e,r.e,s.e,t.e,u.e," + c + ".e}", BAD);
        }
        // Each message has its own labels, also when it goes on behind one inside it.
        due("AB{p.CD{p.e,q.e},q.CD{p.e,q.e}}", NONE);
        due("AB{p.CD{q.e},q.e}", NONE);
        due("AB{p.CD{q.e},p.e}", BAD);
        due("AB{p.CD{q.e,r.e,q.e}}", BAD);
        due("AB{p.CD{q.e},r.CD{s.e,s.e}}", BAD);
        due("AB{p.mX.CD{q.X},p.e}", BAD);
    }

    // The PART of a role

    private static void partOfEndAndReturn() {
        report.sentence("Terms", "of an end e; of a return its variable");
        parts("e", "e", "e", "e", "e");
        for (char c : "XYZ".toCharArray()) {
            String loop = "m" + c + ".";
            parts(loop + "AB{p." + c + "}", loop + "B!{p." + c + "}", loop + "A?{p." + c + "}", "e", "e");
            parts(loop + "CD{q.e,r." + c + "}", "none", "none", loop + "D!{q.e,r." + c + "}",
                    loop + "C?{q.e,r." + c + "}");
        }
    }

    private static void partOfALoopThatDoesNotExist() {
        report.sentence("Terms", "if the part in G does not exist, it does not exist");
        parts("mX.AB{p.X,q.e}", "mX.B!{p.X,q.e}", "mX.A?{p.X,q.e}", "none", "none");
        parts("mX.AB{p.AC{r.e},q.e}", "B!{p.C!{r.e},q.e}", "A?{p.e,q.e}", "none", "e");
        parts("mX.mY.CD{p.CA{r.e},q.e}", "none", "e", "D!{p.A!{r.e},q.e}", "C?{p.e,q.e}");
        // It stays so in what stands around, also where the role has a part beside it.
        parts("CA{s.mX.AB{p.AC{r.X},q.X}}", "C?{s.mX.B!{p.C!{r.X},q.X}}", "mX.A?{p.X,q.X}", "none", "e");
    }

    private static void partOfALoopThatIsJustItsVariable() {
        report.sentence("Terms", "if it is just X, it is e");
        parts("mX.AB{p.X}", "mX.B!{p.X}", "mX.A?{p.X}", "e", "e");
        parts("mY.CD{p.Y,q.Y}", "e", "e", "mY.D!{p.Y,q.Y}", "mY.C?{p.Y,q.Y}");
        parts("mZ.DA{u.Z}", "mZ.D?{u.Z}", "e", "e", "mZ.A!{u.Z}");
        // Of the inner loop it is just X, which is not its own variable, of the outer one it is.
        parts("mX.mY.AB{p.X}", "mX.B!{p.X}", "mX.A?{p.X}", "e", "e");
        parts("mX.mY.AB{p.Y}", "mY.B!{p.Y}", "mY.A?{p.Y}", "e", "e");
        // In a branch, so that the e stands inside the part.
        parts("AB{p.mX.CD{q.X}}", "B!{p.e}", "A?{p.e}", "mX.D!{q.X}", "mX.C?{q.X}");
        parts("AB{p.mX.CD{q.X},r.mY.CD{q.Y}}", "B!{p.e,r.e}", "A?{p.e,r.e}", "none", "none");
        // Not just X, but with it.
        parts("mX.AB{p.AB{q.X}}", "mX.B!{p.B!{q.X}}", "mX.A?{p.A?{q.X}}", "e", "e");
    }

    private static void partOfALoopWithoutItsVariable() {
        report.sentence("Terms", "if no X stands in it, it is the part in G");
        parts("mX.e", "e", "e", "e", "e");
        parts("mX.mY.mZ.e", "e", "e", "e", "e");
        parts("mX.AB{p.e}", "B!{p.e}", "A?{p.e}", "e", "e");
        parts("mX.AB{p.mY.AB{q.Y}}", "B!{p.mY.B!{q.Y}}", "A?{p.mY.A?{q.Y}}", "e", "e");
        // Just Y in a loop with X: no X stands in it.
        parts("mY.AB{p.mX.CD{q.Y}}", "mY.B!{p.Y}", "mY.A?{p.Y}", "mY.D!{q.Y}", "mY.C?{q.Y}");
        parts("mY.CD{r.mX.AB{p.CD{q.X}}}", "mX.B!{p.X}", "mX.A?{p.X}", "D!{r.mX.D!{q.X}}", "C?{r.mX.C?{q.X}}");
        // The X stands before the loop, not in it.
        parts("AB{p.mX.AB{q.X},r.mX.AB{q.e}}", "B!{p.mX.B!{q.X},r.B!{q.e}}", "A?{p.mX.A?{q.X},r.A?{q.e}}", "e", "e");
        parts("AB{p.mX.AB{q.e},r.mX.AB{q.X}}", "B!{p.B!{q.e},r.mX.B!{q.X}}", "A?{p.A?{q.e},r.mX.A?{q.X}}", "e", "e");
    }

    private static void partOfALoopOtherwise() {
        report.sentence("Terms", "otherwise it is mX. and the part in G");
        parts("mX.AB{p.X,q.X}", "mX.B!{p.X,q.X}", "mX.A?{p.X,q.X}", "e", "e");
        parts("mX.mY.AB{p.X,q.Y}", "mX.mY.B!{p.X,q.Y}", "mX.mY.A?{p.X,q.Y}", "none", "none");
        parts("mX.mY.mZ.AB{p.X,q.Y,r.Z}", "mX.mY.mZ.B!{p.X,q.Y,r.Z}", "mX.mY.mZ.A?{p.X,q.Y,r.Z}", "none", "none");
        parts("mX.mY.mZ.AB{p.X,q.X,r.Z}", "mX.mZ.B!{p.X,q.X,r.Z}", "mX.mZ.A?{p.X,q.X,r.Z}", "none", "none");
        parts("mX.AB{p.mY.AB{q.X,r.Y},s.X}", "mX.B!{p.mY.B!{q.X,r.Y},s.X}", "mX.A?{p.mY.A?{q.X,r.Y},s.X}", "none",
                "none");
        // The X stands in the last branch of the innermost message.
        parts("mX.AB{p.e,q.CD{r.e,s.X}}", "none", "none", "none", "none");
        parts("mX.AB{p.e,q.AB{r.e,s.X}}", "mX.B!{p.e,q.B!{r.e,s.X}}", "mX.A?{p.e,q.A?{r.e,s.X}}", "none", "none");
        // As long as the text.
        parts(SIXTY, SIXTY.replace("AB", "B!"), SIXTY.replace("AB", "A?"), "none", "none");
    }

    private static void partsOfTheTwoRoles() {
        report.sentence("Terms", "for A it is B!{p.L1,q.L2,..}, for B it is A?{p.L1,q.L2,..}, L1, L2, .. being its parts"
                + " in G1, G2, ..");
        String roles = "ABCD";
        for (int from = A; from <= D; from++) {
            for (int to = A; to <= D; to++) {
                if (from != to) {
                    Probe x = Probe.of("" + roles.charAt(from) + roles.charAt(to) + "{u.e,p.e}");
                    report.due("the part of the sender", x.part(from), roles.charAt(to) + "!{u.e,p.e}");
                    report.due("the part of the receiver", x.part(to), roles.charAt(from) + "?{u.e,p.e}");
                }
            }
        }
        parts("AB{p.e,q.e,r.e,s.e,t.e,u.e}", "B!{p.e,q.e,r.e,s.e,t.e,u.e}", "A?{p.e,q.e,r.e,s.e,t.e,u.e}", "e", "e");
        parts("AB{q.BA{p.e},p.AB{q.e}}", "B!{q.B?{p.e},p.B!{q.e}}", "A?{q.A!{p.e},p.A?{q.e}}", "e", "e");
        // The parts of the two roles in one branch differ.
        parts("AB{p.BC{q.e},r.AC{s.e}}", "B!{p.e,r.C!{s.e}}", "A?{p.C!{q.e},r.e}", "none", "e");
    }

    private static void partsOfTheTwoRolesMustExist() {
        report.sentence("Terms", "which must all exist");
        // In the first branch, in the one between, and in the last one A and B have no part.
        parts("AB{p.CD{p.AB{p.e},q.e},q.e,r.e}", "none", "none", "none", "none");
        parts("AB{p.e,q.CD{p.AB{p.e},q.e},r.e}", "none", "none", "none", "none");
        parts("AB{p.e,q.e,r.CD{p.AB{p.e},q.e}}", "none", "none", "none", "none");
        // The one has a part there, the other has none.
        parts("AB{p.CD{p.CA{p.e},q.e}}", "none", "A?{p.e}", "D!{p.A!{p.e},q.e}", "C?{p.e,q.e}");
        parts("AB{p.CD{p.CB{p.e},q.e}}", "B!{p.e}", "none", "D!{p.B!{p.e},q.e}", "C?{p.e,q.e}");
        parts("AB{p.CD{p.AB{p.e},q.AB{p.e}}}", "B!{p.B!{p.e}}", "A?{p.A?{p.e}}", "D!{p.e,q.e}", "C?{p.e,q.e}");
    }

    private static void partOfAnotherRole() {
        report.sentence("Terms", "for each other role its parts in G1, G2, .. must all exist and be the same text");
        // They do not exist: in the first branch, in the last one, in both of them.
        parts("AB{p.AB{p.AC{p.e},q.e},q.AC{p.e}}", "B!{p.B!{p.C!{p.e},q.e},q.C!{p.e}}", "A?{p.A?{p.e,q.e},q.e}",
                "none", "e");
        parts("AB{p.AC{p.e},q.AB{p.AC{p.e},q.e}}", "B!{p.C!{p.e},q.B!{p.C!{p.e},q.e}}", "A?{p.e,q.A?{p.e,q.e}}",
                "none", "e");
        parts("AB{p.AB{p.AC{p.e},q.e},q.AB{p.AC{p.e},q.e}}", "B!{p.B!{p.C!{p.e},q.e},q.B!{p.C!{p.e},q.e}}",
                "A?{p.A?{p.e,q.e},q.A?{p.e,q.e}}", "none", "e");
        // They are not the same: the label, the role, who sends, an end and a return, the order.
        parts("AB{p.CD{r.e},q.CD{r.e}}", "B!{p.e,q.e}", "A?{p.e,q.e}", "D!{r.e}", "C?{r.e}");
        parts("AB{p.CD{r.e},q.CD{s.e}}", "B!{p.e,q.e}", "A?{p.e,q.e}", "none", "none");
        parts("AB{p.CA{r.e},q.CB{r.e}}", "B!{p.C?{r.e},q.e}", "A?{p.e,q.C?{r.e}}", "none", "e");
        parts("AB{p.CD{r.e},q.DC{r.e}}", "B!{p.e,q.e}", "A?{p.e,q.e}", "none", "none");
        parts("mX.AB{p.CD{r.X},q.CD{r.e}}", "mX.B!{p.X,q.e}", "mX.A?{p.X,q.e}", "none", "none");
        parts("AB{p.CD{r.e,s.e},q.CD{s.e,r.e}}", "B!{p.e,q.e}", "A?{p.e,q.e}", "none", "none");
        // The one is the beginning of the other; the one has one branch more.
        parts("AB{p.e,q.CD{r.e}}", "B!{p.e,q.e}", "A?{p.e,q.e}", "none", "none");
        parts("AB{p.CD{r.e},q.CD{r.e,s.e}}", "B!{p.e,q.e}", "A?{p.e,q.e}", "none", "none");
        parts("AB{p.CD{r.e,s.e},q.CD{r.e}}", "B!{p.e,q.e}", "A?{p.e,q.e}", "none", "none");
        // The same but for the name of the loop is not the same text; a loop that is left out is.
        parts("AB{p.mX.CD{r.X},q.mY.CD{r.Y}}", "B!{p.e,q.e}", "A?{p.e,q.e}", "none", "none");
        parts("AB{p.mX.CD{r.X},q.mX.CD{r.X}}", "B!{p.e,q.e}", "A?{p.e,q.e}", "mX.D!{r.X}", "mX.C?{r.X}");
        parts("AB{p.mX.CD{r.e},q.CD{r.e}}", "B!{p.e,q.e}", "A?{p.e,q.e}", "D!{r.e}", "C?{r.e}");
        parts("AB{p.mX.AB{r.X},q.e}", "B!{p.mX.B!{r.X},q.e}", "A?{p.mX.A?{r.X},q.e}", "e", "e");
    }

    private static void partOfAnotherRoleInOneBranchAndInSix() {
        report.sentence("Terms", "and this is its part");
        parts("AB{p.CD{r.e}}", "B!{p.e}", "A?{p.e}", "D!{r.e}", "C?{r.e}");
        parts("AB{p.e,q.e,r.e,s.e,t.e,u.e}", "B!{p.e,q.e,r.e,s.e,t.e,u.e}", "A?{p.e,q.e,r.e,s.e,t.e,u.e}", "e", "e");
        String six = "p.CA{t.e},q.CA{t.e},r.CA{t.e},s.CA{t.e},t.CA{t.e}";
        String sent = six.replace("CA{t.e}", "e");
        parts("BA{" + six + "}", "B?{" + six.replace("CA", "C?") + "}", "A!{" + sent + "}", "A!{t.e}", "e");
        // In the last branch alone another one, and in the first branch alone.
        parts("AB{p.e,q.e,r.e,s.e,t.e,u.CA{p.e}}", "B!{p.e,q.e,r.e,s.e,t.e,u.C?{p.e}}", "A?{p.e,q.e,r.e,s.e,t.e,u.e}",
                "none", "e");
        parts("AB{p.CA{p.e},q.e,r.e,s.e,t.e,u.e}", "B!{p.C?{p.e},q.e,r.e,s.e,t.e,u.e}", "A?{p.e,q.e,r.e,s.e,t.e,u.e}",
                "none", "e");
        // Three branches of which the second differs, and the third is as the first.
        parts("AB{p.e,q.CA{p.e},r.e}", "B!{p.e,q.C?{p.e},r.e}", "A?{p.e,q.e,r.e}", "none", "e");
        // Inside a part of the role's own.
        parts("CA{s.AB{p.CD{r.e},q.CD{r.e}},t.e}", "C?{s.B!{p.e,q.e},t.e}", "none", "A!{s.D!{r.e},t.e}", "none");
    }

    // How a RUN goes

    private static void standsAtItsBeginning() {
        report.sentence("Terms", "Each role STANDS in its part, at first at its beginning");
        Probe x = Probe.run("AB{p.BC{q.CD{r.e}}}");
        stands(x, A, 1, B, "p");
        stands(x, B, 2, A, "p");
        stands(x, C, 2, B, "q");
        stands(x, D, 2, C, "r");
    }

    private static void goesOnBehindALoop() {
        report.sentence("Terms", "Where mX. stands it goes on behind the point at once");
        Probe x = Probe.run("mZ.AB{p.CD{q.Z}}");
        stands(x, A, 1, B, "p");
        stands(x, B, 2, A, "p");
        stands(x, C, 1, D, "q");
        stands(x, D, 2, C, "q");
        // Behind the point of a label.
        Probe y = Probe.run("AB{p.mX.BA{q.X},r.e}").moved("A!p B?p");
        stands(y, A, 2, B, "q");
        stands(y, B, 1, A, "q");
    }

    private static void goesBackToTheLoop() {
        report.sentence("Terms", "where X stands it goes on at the mX. around it at once");
        for (char c : "XYZ".toCharArray()) {
            Probe x = Probe.run("m" + c + ".AB{p." + c + ",q.AB{r." + c + "}}");
            for (int n = 0; n < 5; n++) {
                stands(x.moved("A!p"), A, 1, B, "pq");
                stands(x.moved("B?p"), B, 2, A, "pq");
                stands(x.moved("A!q"), A, 1, B, "r");
                stands(x.moved("B?q"), B, 2, A, "r");
                stands(x.moved("A!r"), A, 1, B, "pq");
                stands(x.moved("B?r"), B, 2, A, "pq");
            }
        }
    }

    private static void goesBackToTheLoopAround() {
        report.sentence("Terms", "at the mX. around it");
        // Not to the first loop with the variable, and not to the last one.
        String protocol = "AB{p.mX.AB{q.X},r.mX.BA{s.X},t.mX.AB{u.X}}";
        Probe x = Probe.run(protocol).moved("A!p B?p A!q A!q B?q");
        stands(x, A, 1, B, "q");
        stands(x, B, 2, A, "q");
        Probe y = Probe.run(protocol).moved("A!r B?r B!s B!s A?s");
        stands(y, A, 2, B, "s");
        stands(y, B, 1, A, "s");
        Probe z = Probe.run(protocol).moved("A!t B?t A!u A!u B?u");
        stands(z, A, 1, B, "u");
        stands(z, B, 2, A, "u");
        // The inner loop is left out of the parts of A and B, whose X goes back over it.
        Probe v = Probe.run("mX.AB{p.mY.CD{q.X}}").moved("A!p A!p B?p C!q D?q");
        stands(v, A, 1, B, "p");
        stands(v, B, 2, A, "p");
        stands(v, C, 1, D, "q");
        stands(v, D, 2, C, "q");
        // A loop of another variable stands between the return and its own loop.
        Probe w = Probe.run("mX.AB{p.mY.BA{q.Y},r.AB{s.mZ.BA{t.Z}}}").moved("A!r B?r A!s B?s B!t B!t A?t");
        stands(w, A, 2, B, "t");
        stands(w, B, 1, A, "t");
    }

    private static void standsAtEndSendOrReceive() {
        report.sentence("Terms", "so it always stands at an e, where it has ENDED, at a B!{..}, where it SENDS to B, or at"
                + " an A?{..}, where it RECEIVES from A");
        Probe x = Probe.run("AB{p.BA{q.e}}");
        stands(x, A, 1, B, "p");
        stands(x, B, 2, A, "p");
        stands(x, C, 0, NONE, "");
        stands(x, D, 0, NONE, "");
        x.moved("A!p B?p");
        stands(x, A, 2, B, "q");
        stands(x, B, 1, A, "q");
        x.moved("B!q");
        stands(x, B, 0, NONE, "");
        stands(x, A, 2, B, "q");
        x.moved("A?q");
        stands(x, A, 0, NONE, "");
    }

    private static void labelsOfTheBranchesThere() {
        report.sentence("Terms", "the labels of the branches there are what it OFFERS");
        Probe x = Probe.run("AB{p.e,q.e,r.e,s.e,t.e,u.e}");
        stands(x, A, 1, B, "pqrstu");
        stands(x, B, 2, A, "pqrstu");
        // Not those of the branches inside it, before it, or behind it.
        Probe y = Probe.run("AB{q.AB{p.AB{u.e}},s.AB{r.e,t.e}}");
        stands(y, A, 1, B, "qs");
        stands(y.moved("A!q"), A, 1, B, "p");
        stands(y.moved("A!p"), A, 1, B, "u");
        stands(y.moved("B?q"), B, 2, A, "p");
        Probe z = Probe.run("AB{q.AB{p.AB{u.e}},s.AB{r.e,t.e}}").moved("A!s");
        stands(z, A, 1, B, "rt");
        stands(z.moved("B?s"), B, 2, A, "rt");
    }

    private static void atMostThreeOnTheWay() {
        report.sentence("Terms", "For each two roles a row of labels is ON THE WAY from the one to the other, at most 3");
        String roles = "ABCD";
        for (int from = A; from <= D; from++) {
            for (int to = A; to <= D; to++) {
                if (from != to) {
                    fillAndEmpty("" + roles.charAt(from) + roles.charAt(to), from, to);
                }
            }
        }
    }

    private static void fillAndEmpty(String roles, int from, int to) {
        Probe x = Probe.run("mX." + roles + "{p.X,q.X,r.X,s.X,t.X,u.X}");
        String[] rows = {"----", "p---", "pq--", "pqr-"};
        for (int count = 0; count < 3; count++) {
            report.due(roles + ", row of " + count, x.row(from, to), rows[count]);
            report.due(roles + ", count", x.onTheWay(from, to), count);
            report.due(roles + ", send with " + count, x.send(from, count), true);
        }
        report.due(roles + ", row of 3", x.row(from, to), rows[3]);
        report.due(roles + ", count", x.onTheWay(from, to), 3);
        report.due(roles + ", send with 3", x.send(from, Probe.S), false);
        report.due(roles + ", row of 3 still", x.row(from, to), rows[3]);
        report.due(roles + ", the row back", x.row(to, from), rows[0]);
        // The row goes on as long as one is taken for each that comes.
        for (int n = 0; n < 20; n++) {
            report.due(roles + ", receive", x.receive(to), n % 6);
            report.due(roles + ", send with 2", x.send(from, (n + 3) % 6), true);
            report.due(roles + ", send with 3", x.send(from, 0), false);
        }
        for (int n = 20; n < 23; n++) {
            report.due(roles + ", receive", x.receive(to), n % 6);
        }
        report.due(roles + ", receive with 0", x.receive(to), NONE);
        report.due(roles + ", the empty row", x.row(from, to), rows[0]);
    }

    private static void noneOnTheWayAtFirst() {
        report.sentence("Terms", "none at first");
        Probe x = Probe.run("mX.AB{p.CD{q.X}}").moved("A!p A!p A!p C!q");
        report.due("begin in a run", x.begin(), true);
        for (int from = A; from <= D; from++) {
            for (int to = A; to <= D; to++) {
                report.due("onTheWay at first", x.onTheWay(from, to), 0);
                report.due("the row at first", x.row(from, to), "----");
            }
        }
    }

    private static void goesOnBehindTheLabel() {
        report.sentence("Terms", "A role that sends a label goes on behind that label's point, and so does a role that"
                + " receives one");
        String protocol = "AB{p.AB{q.e},r.BA{s.e},u.e}";
        Probe first = Probe.run(protocol).moved("A!p");
        stands(first, A, 1, B, "q");
        stands(first, B, 2, A, "pru");
        stands(first.moved("B?p"), B, 2, A, "q");
        Probe middle = Probe.run(protocol).moved("A!r");
        stands(middle, A, 2, B, "s");
        stands(middle.moved("B?r"), B, 1, A, "s");
        Probe last = Probe.run(protocol).moved("A!u");
        stands(last, A, 0, NONE, "");
        stands(last.moved("B?u"), B, 0, NONE, "");
    }

    // What the tests are made of

    /** What define answers for a text, and that the text is empty then. */
    private static void due(String text, int answer) {
        Probe x = new Probe();
        report.due("define of '" + text + "'", x.define(text), answer);
        report.due("define behind '" + text + "'", x.define(), 0);
    }

    /**
     * Tries all characters at each place of a protocol and behind it; the texts are those that may
     * stand there.
     */
    private static void faultsAt(String protocol, String... allowed) {
        for (int place = 0; place < allowed.length; place++) {
            String before = protocol.substring(0, place);
            String behind = place < protocol.length() ? protocol.substring(place + 1) : "";
            for (char c = 32; c <= 126; c++) {
                String text = before + c;
                if (allowed[place].indexOf(c) < 0) {
                    due(text, place);
                    due(text + behind, place);
                } else {
                    int answer = new Probe().define(text);
                    boolean whole = count(text, '{') == count(text, '}') && "eXYZ}".indexOf(c) >= 0
                            && !text.matches(".*m[XYZ]");
                    report.due("define of '" + text + "' < 0", answer < 0, whole);
                    report.due("define of '" + text + "'", whole ? 0 : answer, whole ? 0 : place + 1);
                }
            }
        }
    }

    private static int count(String text, char c) {
        int count = 0;
        for (int k = 0; k < text.length(); k++) {
            count += text.charAt(k) == c ? 1 : 0;
        }
        return count;
    }

    private static void parts(String protocol, String... due) {
        Probe x = Probe.of(protocol);
        for (int role = A; role <= D; role++) {
            report.due("the part of role " + role + " in " + protocol, x.part(role), due[role]);
        }
    }

    private static void stands(Probe x, int role, int act, int partner, String offered) {
        report.due("act of " + role, x.act(role), act);
        report.due("partner of " + role, x.partner(role), partner);
        report.due("what role " + role + " offers", x.offered(role), offered);
    }
}
