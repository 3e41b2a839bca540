/** For each promise of the document: ordinary inputs, the edges it names, and wrong inputs. */
public final class PromiseTest {
    private static final int NONE = -1;
    private static final int BAD = -2;
    private static final int A = 0;
    private static final int B = 1;
    private static final int C = 2;
    private static final int D = 3;
    private static final int P = 0;
    private static final int Q = 1;
    private static final int R = 2;
    private static final int U = 5;
    private static final int[] NO_ROLES = {-1, 4, 5, 65, Integer.MIN_VALUE, Integer.MAX_VALUE};
    private static final int[] NO_LABELS = {-1, 6, 112, 65536, 65541, Integer.MIN_VALUE, Integer.MAX_VALUE};

    private static int wrong = 0;

    public static void main(String[] args) {
        newObject();
        type();
        typeAtItsLimit();
        faults();
        unsound();
        unsoundOnesLeaveNothing();
        sound();
        defineKeepsAndReplaces();
        messages();
        parts();
        lengthAndCharAt();
        begin();
        act();
        partner();
        offers();
        send();
        sendWhenThreeAreOnTheWay();
        receive();
        rowsAreApart();
        labelAt();
        loopsGoOnAtOnce();
        siblingLoops();
        moves();
        ready();
        over();
        System.out.println(wrong == 0 ? "all answers are as due" : wrong + " answers are not as due");
        if (wrong != 0) {
            System.exit(1);
        }
    }

    // Promise 1

    private static void newObject() {
        due("constant NONE", RoleParts.NONE, NONE);
        due("constant BAD", RoleParts.BAD, BAD);
        RoleParts x = new RoleParts();
        noRun("new object", x);
        due("new object, messages", x.messages(), NONE);
        due("new object, begin", x.begin(), false);
        for (int role = -1; role <= 4; role++) {
            due("new object, length", x.length(role), NONE);
            due("new object, charAt", x.charAt(role, 0), NONE);
        }
        due("new object, its text is empty", x.define(), 0);
    }

    // Promise 2

    private static void type() {
        RoleParts x = new RoleParts();
        char[] refused = {0, 9, 10, 31, 127, 128, 160, 255, 256 + 'e', 0x1000 + 'e', 0xffff};
        for (char c : refused) {
            due("type of code " + (int) c, x.type(c), false);
        }
        due("nothing was typed", x.define(), 0);
        for (char c = 32; c <= 126; c++) {
            due("type of code " + (int) c, x.type(c), true);
            due("define behind code " + (int) c, x.define() != 0, "emABCDXYZ".indexOf(c) >= 0);
        }
    }

    private static void typeAtItsLimit() {
        String full = "AB{p.AB{p.AB{p.AB{p.AB{p.AB{p.AB{p.AB{p.AB{p.mX.mY.e}}}}}}}}}";
        due("a text of 61", full.length(), 61);
        RoleParts x = new RoleParts();
        for (int k = 0; k < 60; k++) {
            due("type of character " + k, x.type(full.charAt(k)), true);
        }
        due("type of character 60", x.type('}'), false);
        due("type of character 60 again", x.type('e'), false);
        due("the fault at the end of 60", x.define(), 60);
        due("type behind define", x.type('e'), true);
        due("define behind define", x.define(), NONE);

        RoleParts y = of("mX.AB{p.AB{p.AB{p.AB{p.AB{p.AB{p.AB{p.AB{p.e,q.e,r.X}}}}}}}}");
        due("a part of 60", y.length(B), 60);
        part("60 characters", y, B, "mX.A?{p.A?{p.A?{p.A?{p.A?{p.A?{p.A?{p.A?{p.e,q.e,r.X}}}}}}}}");
        part("60 characters", y, C, null);
    }

    // Promise 3

    private static void faults() {
        fault("", 0);
        fault(" ", 0);
        fault("f", 0);
        fault("E", 0);
        fault("W", 0);
        fault("p", 0);
        fault("{", 0);
        fault("}", 0);
        fault(".", 0);
        fault(" e", 0);
        fault("e ", 1);
        fault("ee", 1);
        fault("e,", 1);
        fault("e}", 1);
        fault("XY", 1);
        fault("X.", 1);
        fault("m", 1);
        fault("me", 1);
        fault("mW", 1);
        fault("mA.e", 1);
        fault("mx.e", 1);
        fault("mX", 2);
        fault("mXe", 2);
        fault("mX,e", 2);
        fault("mX.", 3);
        fault("mX.e.", 4);
        fault("mX..e", 3);
        fault("mX.mX", 5);
        fault("A", 1);
        fault("AE{p.e}", 1);
        fault("A@{p.e}", 1);
        fault("a", 0);
        fault("AX", 1);
        fault("AB", 2);
        fault("ABC", 2);
        fault("AB(", 2);
        fault("AB{", 3);
        fault("AB{}", 3);
        fault("AB{,", 3);
        fault("AB{o.e}", 3);
        fault("AB{v.e}", 3);
        fault("AB{P.e}", 3);
        fault("AB{p", 4);
        fault("AB{p,", 4);
        fault("AB{p}", 4);
        fault("AB{p.", 5);
        fault("AB{p.}", 5);
        fault("AB{p.,q.e}", 5);
        fault("AB{p.p", 5);
        fault("AB{p.e", 6);
        fault("AB{p.ee", 6);
        fault("AB{p.e.", 6);
        fault("AB{p.e,", 7);
        fault("AB{p.e,}", 7);
        fault("AB{p.e,e", 7);
        fault("AB{p.e}}", 7);
        fault("AB{p.e},", 7);
        fault("AB{p.e}e", 7);
        fault("AB{p.CD{q.e}", 12);
        fault("AB{p.CD{q.e}}}", 13);
        fault("AB{p.CD{q.e}q", 12);
        fault("mX.AB{p.X}.", 10);
        // What makes a protocol not sound is no fault, and a fault comes before it.
        fault("AA{p.e,p.X}e", 11);
        fault("AA{p.e,p.X", 10);
        fault("X}", 1);
        fault("mX.mX.X,", 7);
    }

    private static void unsound() {
        bad("X");
        bad("Y");
        bad("Z");
        bad("mX.X");
        bad("mX.Y");
        bad("mX.mY.X");
        bad("mX.mY.mZ.Y");
        bad("mX.mX.e");
        bad("mX.mY.mX.e");
        bad("mX.AB{p.mX.e}");
        bad("mX.AB{p.mX.AB{q.X}}");
        bad("mX.AB{p.e,q.mX.e}");
        bad("mX.AB{p.mY.AB{q.mX.AB{p.X}}}");
        bad("AB{p.X}");
        bad("mX.AB{p.Y}");
        bad("mX.AB{p.X,q.Z}");
        bad("AB{p.mX.X}");
        // The message between must be inside the body, not around the loop.
        bad("AB{p.mX.X,q.e}");
        bad("mX.AB{p.mY.Y}");
        bad("mX.AB{p.X,q.mY.Y}");
        // A loop ends with its branch.
        bad("AB{p.mX.AB{p.X},q.X}");
        bad("AB{p.mX.AB{p.e},q.AB{p.X}}");
        bad("mY.AB{p.mX.AB{p.Y},q.AB{p.X}}");
        bad("AB{p.AB{p.mX.e},q.AB{p.X}}");
        bad("AA{p.e}");
        bad("BB{p.e}");
        bad("CC{p.e}");
        bad("DD{p.e}");
        bad("AB{p.CC{p.e}}");
        bad("AB{p.e,q.DD{p.e}}");
        bad("AB{p.e,p.e}");
        bad("AB{u.e,u.e}");
        bad("AB{p.e,q.e,p.e}");
        bad("AB{p.e,q.e,r.e,s.e,t.e,u.e,s.e}");
        bad("AB{p.e,q.CD{r.e,s.e,r.e}}");
        bad("AB{p.CD{q.e},q.e,p.e}");
        bad("AB{p.e,p.e,p.e,p.e,p.e,p.e,p.e,p.e,p.e,p.e,p.e,p.e,p.e,p.e}");
    }

    /** What was read before has no bearing on what is read next. */
    private static void unsoundOnesLeaveNothing() {
        String[] stops = {"mX.mY.AB{p.mZ.AB{q.mX.e}}", "mX.AB{p.AB{q.AB{r.Y}}}", "mX.AB{p.AB{q.e,q.e}}",
            "mX.mY.mZ.AB{p.CD{q.AA{p.e}}}", "mX.AB{p.X}}", "mX.AB{p.AB{q.X", "mX.AB{p.X,q.mY.AB{r.Y}}"};
        for (String stop : stops) {
            RoleParts x = new RoleParts();
            define(x, stop);
            due("X behind " + stop, define(x, "X"), BAD);
            define(x, stop);
            due("AB{p.X} behind " + stop, define(x, "AB{p.X}"), BAD);
            define(x, stop);
            due("mX.mY.mZ.e behind " + stop, define(x, "mX.mY.mZ.e"), NONE);
            define(x, stop);
            due("AB{p.CD{q.e},q.CD{q.e}} behind " + stop, define(x, "AB{p.CD{q.e},q.CD{q.e}}"), NONE);
            define(x, stop);
            due("e} behind " + stop, define(x, "e}"), 1);
            define(x, stop);
            due("AB{p.e behind " + stop, define(x, "AB{p.e"), 6);
        }
    }

    private static void sound() {
        good("e");
        good("mX.e");
        good("mZ.mY.mX.e");
        good("mX.AB{p.X}");
        good("mY.BA{u.Y}");
        good("mX.mY.mZ.DC{p.X,q.Y,r.Z}");
        good("AB{p.mX.AB{p.X},q.mX.AB{p.X}}");
        good("AB{p.mX.AB{p.X},q.AB{p.mX.e}}");
        good("mX.AB{p.mY.CD{q.X}}");
        good("mX.AB{p.mY.AB{q.Y},r.mY.AB{q.X}}");
        good("mX.AB{p.AB{q.e},r.X}");
        good("AB{p.AB{p.AB{p.e}}}");
        good("AB{p.BA{p.e},q.BA{p.e}}");
        good("AB{u.e,t.e,s.e,r.e,q.e,p.e}");
    }

    private static void defineKeepsAndReplaces() {
        RoleParts x = of("mX.AB{p.X}");
        due("begin", x.begin(), true);
        due("send", x.send(A, P), true);
        String[] refused = {"", "AB{p.e", "q", "AA{p.e}", "X", "mX.X"};
        for (String text : refused) {
            due("define of '" + text + "'", define(x, text) != NONE, true);
            due("the protocol stays", x.messages(), 1);
            part("the part stays", x, A, "mX.B!{p.X}");
            part("the part stays", x, C, "e");
            due("the run stays", x.moves(), 1);
            due("the run stays", x.onTheWay(A, B), 1);
            due("the run stays", x.act(A), 1);
            due("the text is empty", x.define(), 0);
        }
        due("define of another", define(x, "CD{q.AB{p.e}}"), NONE);
        noRun("a new protocol", x);
        due("another protocol", x.messages(), 2);
        part("another part", x, C, "D!{q.e}");
        part("another part", x, A, "B!{p.e}");
        due("begin", x.begin(), true);
        due("define of the same", define(x, "CD{q.AB{p.e}}"), NONE);
        noRun("the same protocol anew", x);
        due("define with no part of C", define(x, "AB{p.CD{q.e},q.e}"), NONE);
        part("no part of C", x, C, null);
        due("begin without a part of C", x.begin(), false);
        noRun("begin without a part of C", x);
        due("define of e", define(x, "e"), NONE);
        part("a part of C again", x, C, "e");
        due("begin with e", x.begin(), true);
    }

    // Promise 4

    private static void messages() {
        due("messages of e", of("e").messages(), 0);
        due("messages of loops", of("mX.mY.e").messages(), 0);
        due("messages of one", of("AB{p.e,q.e,r.e}").messages(), 1);
        due("messages of a loop", of("mX.AB{p.X,q.BA{p.X}}").messages(), 2);
        due("messages in branches", of("AB{p.CD{q.e},q.CD{q.e},r.CD{q.AB{p.e}}}").messages(), 5);
    }

    // Promises 5 and 6

    private static void parts() {
        allParts("e", "e", "e", "e", "e");
        allParts("mX.mY.e", "e", "e", "e", "e");
        allParts("AB{p.e}", "B!{p.e}", "A?{p.e}", "e", "e");
        allParts("DA{u.e,p.e}", "D?{u.e,p.e}", "e", "e", "A!{u.e,p.e}");
        allParts("mX.AB{p.X}", "mX.B!{p.X}", "mX.A?{p.X}", "e", "e");
        allParts("mX.AB{p.X,q.e}", "mX.B!{p.X,q.e}", "mX.A?{p.X,q.e}", null, null);
        allParts("AB{p.BC{q.e}}", "B!{p.e}", "A?{p.C!{q.e}}", "B?{q.e}", "e");
        allParts("AB{p.CD{r.e},q.CD{r.e}}", "B!{p.e,q.e}", "A?{p.e,q.e}", "D!{r.e}", "C?{r.e}");
        allParts("AB{p.CD{r.e},q.CD{s.e}}", "B!{p.e,q.e}", "A?{p.e,q.e}", null, null);
        allParts("AB{p.CD{r.e},q.DC{r.e}}", "B!{p.e,q.e}", "A?{p.e,q.e}", null, null);
        allParts("AB{p.CD{r.e,s.e},q.CD{s.e,r.e}}", "B!{p.e,q.e}", "A?{p.e,q.e}", null, null);
        allParts("AB{p.AC{r.e},q.e}", "B!{p.C!{r.e},q.e}", "A?{p.e,q.e}", null, "e");
        allParts("AB{p.e,q.e,r.CD{p.e}}", "B!{p.e,q.e,r.e}", "A?{p.e,q.e,r.e}", null, null);
        // The same text is a beginning of the other one only.
        allParts("AB{p.AC{p.e},q.AC{p.AC{p.e}}}", "B!{p.C!{p.e},q.C!{p.C!{p.e}}}", "A?{p.e,q.e}", null, "e");
        // A loop of which nothing comes back stands in no part.
        allParts("mX.AB{p.CD{q.e}}", "B!{p.e}", "A?{p.e}", "D!{q.e}", "C?{q.e}");
        allParts("AB{p.mX.AB{p.X},q.mX.AB{q.X}}", "B!{p.mX.B!{p.X},q.mX.B!{q.X}}",
                "A?{p.mX.A?{p.X},q.mX.A?{q.X}}", "e", "e");
        allParts("AB{p.mX.AB{p.X},q.e}", "B!{p.mX.B!{p.X},q.e}", "A?{p.mX.A?{p.X},q.e}", "e", "e");
        allParts("mX.AB{p.mY.AB{q.X}}", "mX.B!{p.B!{q.X}}", "mX.A?{p.A?{q.X}}", "e", "e");
        allParts("mX.AB{p.mY.CD{q.X}}", "mX.B!{p.X}", "mX.A?{p.X}", "mX.D!{q.X}", "mX.C?{q.X}");
        allParts("mX.AB{p.mY.CD{q.Y}}", "B!{p.e}", "A?{p.e}", "mY.D!{q.Y}", "mY.C?{q.Y}");
        allParts("mX.mY.AB{p.X,q.Y}", "mX.mY.B!{p.X,q.Y}", "mX.mY.A?{p.X,q.Y}", null, null);
        allParts("mX.mY.AB{p.Y}", "mY.B!{p.Y}", "mY.A?{p.Y}", "e", "e");
        allParts("mX.mY.AB{p.X}", "mX.B!{p.X}", "mX.A?{p.X}", "e", "e");
        // The same but for the name of a loop is not the same text.
        allParts("AB{p.mX.CD{p.X},q.mY.CD{p.Y}}", "B!{p.e,q.e}", "A?{p.e,q.e}", null, null);
        allParts("AB{p.mX.CD{p.X},q.mX.CD{p.X}}", "B!{p.e,q.e}", "A?{p.e,q.e}", "mX.D!{p.X}", "mX.C?{p.X}");
        // A loop that goes on for one branch alone ends for a role that it does not need.
        allParts("mX.AB{p.mY.AB{q.Y},r.mZ.BA{s.Z}}", "B!{p.mY.B!{q.Y},r.mZ.B?{s.Z}}",
                "A?{p.mY.A?{q.Y},r.mZ.A!{s.Z}}", "e", "e");
        allParts("mX.AB{p.BC{q.X},r.BC{s.e}}", "mX.B!{p.X,r.e}", "mX.A?{p.C!{q.X},r.C!{s.e}}", null, null);
        // What does not exist inside makes all around it not exist.
        allParts("AC{p.mX.AB{q.AB{p.X,q.e}}}", "C!{p.mX.B!{q.B!{p.X,q.e}}}", "mX.A?{q.A?{p.X,q.e}}", null, null);
        allParts("CD{p.AB{p.CD{r.e},q.e}}", "B!{p.e,q.e}", "A?{p.e,q.e}", null, null);
        allParts("DC{p.e,q.AB{p.CD{r.e},q.e}}", null, null, null, null);
        allParts("AB{p.AB{r.CD{p.e}},q.AB{r.CD{p.e}}}", "B!{p.B!{r.e},q.B!{r.e}}",
                "A?{p.A?{r.e},q.A?{r.e}}", "D!{p.e}", "C?{p.e}");
        allParts("mZ.BD{t.DB{u.Z}}", "e", "mZ.D!{t.D?{u.Z}}", "e", "mZ.B?{t.B!{u.Z}}");
    }

    private static void lengthAndCharAt() {
        RoleParts x = of("AB{p.CD{q.e},r.e}");
        due("length of A", x.length(A), 11);
        due("length of C", x.length(C), NONE);
        due("charAt of C", x.charAt(C, 0), NONE);
        due("charAt, first", x.charAt(A, 0), 'B');
        due("charAt, last", x.charAt(A, 10), '}');
        int[] outside = {-1, 11, 12, 60, 61, Integer.MIN_VALUE, Integer.MAX_VALUE};
        for (int k : outside) {
            due("charAt at " + k, x.charAt(A, k), NONE);
        }
        for (int role : NO_ROLES) {
            due("length of role " + role, x.length(role), NONE);
            due("charAt of role " + role, x.charAt(role, 0), NONE);
        }
        // A shorter part shows nothing of the longer one before it.
        due("define of e", define(x, "e"), NONE);
        due("length behind e", x.length(A), 1);
        due("charAt behind e", x.charAt(A, 1), NONE);
        due("begin", x.begin(), true);
        due("length in a run", x.length(B), 1);
    }

    // Promise 7

    private static void begin() {
        RoleParts x = of("AB{p.CD{q.e},r.e}");
        due("begin with no part of C", x.begin(), false);
        noRun("begin with no part of C", x);
        due("begin without A's part", of("BC{p.BA{r.e},q.e}").begin(), false);
        due("begin without B's part", of("AC{p.AB{r.e},q.e}").begin(), false);
        due("begin without C's part", of("AB{p.AC{r.e},q.e}").begin(), false);
        due("begin without D's part", of("AB{p.AD{r.e},q.e}").begin(), false);
        RoleParts y = of("AB{p.AB{q.e}}");
        noRun("before begin", y);
        due("begin", y.begin(), true);
        due("send p", y.send(A, P), true);
        due("send q", y.send(A, Q), true);
        due("receive p", y.receive(B), P);
        due("begin again", y.begin(), true);
        due("nothing on the way", y.onTheWay(A, B), 0);
        due("no label", y.labelAt(A, B, 0), NONE);
        due("no moves", y.moves(), 0);
        due("A at its beginning", y.offers(A, P), true);
        due("B at its beginning", y.offers(B, P), true);
        due("ready", y.ready(), 1);
        due("type in a run", y.type('e'), true);
        due("type leaves the run", y.moves(), 0);
    }

    // Promises 8, 9 and 10

    private static void act() {
        RoleParts x = run("mX.AB{p.BC{q.X}}");
        due("act of A", x.act(A), 1);
        due("act of B", x.act(B), 2);
        due("act of C", x.act(C), 2);
        due("act of D", x.act(D), 0);
        for (int role : NO_ROLES) {
            due("act of role " + role, x.act(role), NONE);
        }
        due("send", x.send(A, P), true);
        due("receive", x.receive(B), P);
        due("act of B then", x.act(B), 1);
    }

    private static void partner() {
        RoleParts x = run("AB{p.BD{q.DA{r.e}}}");
        due("partner of A", x.partner(A), B);
        due("partner of B", x.partner(B), A);
        due("partner of C", x.partner(C), NONE);
        due("partner of D", x.partner(D), B);
        for (int role : NO_ROLES) {
            due("partner of role " + role, x.partner(role), NONE);
        }
        due("send", x.send(A, P), true);
        due("partner of A then", x.partner(A), D);
        due("receive", x.receive(B), P);
        due("partner of B then", x.partner(B), D);
        due("send", x.send(B, Q), true);
        due("partner of B at the end", x.partner(B), NONE);
    }

    private static void offers() {
        // Labels of branches inside branches are not offered yet.
        RoleParts x = run("AB{q.AB{p.e,r.e},u.AB{t.e}}");
        for (int label = 0; label < 6; label++) {
            due("offers of A, " + label, x.offers(A, label), label == Q || label == U);
            due("offers of B, " + label, x.offers(B, label), label == Q || label == U);
            due("offers of C, " + label, x.offers(C, label), false);
        }
        for (int label : NO_LABELS) {
            due("offers of A, " + label, x.offers(A, label), false);
            due("send of A, " + label, x.send(A, label), false);
        }
        for (int role : NO_ROLES) {
            due("offers of role " + role, x.offers(role, Q), false);
        }
        due("send q", x.send(A, Q), true);
        for (int label = 0; label < 6; label++) {
            due("offers of A then, " + label, x.offers(A, label), label == P || label == R);
            due("offers of B still, " + label, x.offers(B, label), label == Q || label == U);
        }
        due("send r", x.send(A, R), true);
        for (int label = 0; label < 6; label++) {
            due("offers of A at the end, " + label, x.offers(A, label), false);
        }
    }

    // Promises 11 to 14

    private static void send() {
        RoleParts x = run("AB{p.BA{q.e},r.e}");
        due("B does not send", x.send(B, P), false);
        due("C has ended", x.send(C, P), false);
        due("q is not offered", x.send(A, Q), false);
        for (int role : NO_ROLES) {
            due("send of role " + role, x.send(role, P), false);
        }
        due("nothing has changed", x.moves(), 0);
        due("nothing has changed", x.onTheWay(A, B), 0);
        due("send", x.send(A, P), true);
        due("on the way", x.onTheWay(A, B), 1);
        due("not on the way back", x.onTheWay(B, A), 0);
        due("the label", x.labelAt(A, B, 0), P);
        due("A goes on", x.act(A), 2);
        due("B stays", x.act(B), 2);
        due("A sends no more", x.send(A, P), false);
        due("A has nothing to receive", x.receive(A), NONE);
        due("B receives", x.receive(B), P);
        due("B goes on", x.act(B), 1);
        due("B sends", x.send(B, Q), true);
        due("on the way back", x.onTheWay(B, A), 1);
        due("A receives", x.receive(A), Q);
        due("over", x.over(), true);
    }

    private static void sendWhenThreeAreOnTheWay() {
        RoleParts x = run("mX.AB{p.AB{q.AB{r.AC{s.X}}}}");
        due("send p", x.send(A, P), true);
        due("send q", x.send(A, Q), true);
        due("send r", x.send(A, R), true);
        due("send s to C", x.send(A, 3), true);
        due("send p with 3 on the way", x.send(A, P), false);
        due("3 are on the way", x.onTheWay(A, B), 3);
        due("the moves", x.moves(), 4);
        due("A stays", x.offers(A, P), true);
        due("B and C are ready", x.ready(), 2);
        due("receive", x.receive(B), P);
        due("all three are ready", x.ready(), 3);
        due("send p", x.send(A, P), true);
        due("label 0", x.labelAt(A, B, 0), Q);
        due("label 1", x.labelAt(A, B, 1), R);
        due("label 2", x.labelAt(A, B, 2), P);
        due("send q with 3 on the way", x.send(A, Q), false);
        due("receive q", x.receive(B), Q);
        due("receive r", x.receive(B), R);
        due("receive p", x.receive(B), P);
        due("nothing more", x.receive(B), NONE);
    }

    private static void receive() {
        RoleParts x = run("AB{p.AB{q.CB{r.e}}}");
        due("A does not receive", x.receive(A), NONE);
        due("nothing for B", x.receive(B), NONE);
        due("D has ended", x.receive(D), NONE);
        for (int role : NO_ROLES) {
            due("receive of role " + role, x.receive(role), NONE);
        }
        due("C sends", x.send(C, R), true);
        due("B does not receive from C yet", x.receive(B), NONE);
        due("B cannot go on, A can", x.ready(), 1);
        due("A sends p", x.send(A, P), true);
        due("A sends q", x.send(A, Q), true);
        due("B receives p", x.receive(B), P);
        due("q is the first then", x.labelAt(A, B, 0), Q);
        due("one is on the way", x.onTheWay(A, B), 1);
        due("none as number 1", x.labelAt(A, B, 1), NONE);
        due("B receives q", x.receive(B), Q);
        due("B receives r", x.receive(B), R);
        due("B receives no more", x.receive(B), NONE);
        due("the moves", x.moves(), 6);
    }

    private static void rowsAreApart() {
        String roles = "ABCD";
        for (int from = 0; from < 4; from++) {
            for (int to = 0; to < 4; to++) {
                if (from == to) {
                    continue;
                }
                RoleParts x = run("" + roles.charAt(from) + roles.charAt(to) + "{t.e}");
                due("send", x.send(from, 4), true);
                for (int a = 0; a < 4; a++) {
                    for (int b = 0; b < 4; b++) {
                        boolean here = a == from && b == to;
                        due("onTheWay", x.onTheWay(a, b), here ? 1 : 0);
                        due("labelAt", x.labelAt(a, b, 0), here ? 4 : NONE);
                    }
                }
                due("receive", x.receive(to), 4);
            }
        }
    }

    private static void labelAt() {
        RoleParts x = run("AB{p.AB{u.e}}");
        for (int role : NO_ROLES) {
            due("onTheWay from " + role, x.onTheWay(role, A), NONE);
            due("onTheWay to " + role, x.onTheWay(A, role), NONE);
            due("labelAt from " + role, x.labelAt(role, A, 0), NONE);
            due("labelAt to " + role, x.labelAt(A, role, 0), NONE);
        }
        for (int role = 0; role < 4; role++) {
            due("onTheWay to itself", x.onTheWay(role, role), 0);
            due("labelAt to itself", x.labelAt(role, role, 0), NONE);
        }
        // 0 * 4 + 5 would be the row from B to B, and 1 * 4 - 3 the row from A to B.
        due("send", x.send(A, P), true);
        due("send", x.send(A, U), true);
        due("onTheWay from B to -3", x.onTheWay(B, -3), NONE);
        due("labelAt from B to -3", x.labelAt(B, -3, 0), NONE);
        due("label 0", x.labelAt(A, B, 0), P);
        due("label 1", x.labelAt(A, B, 1), U);
        int[] outside = {-1, 2, 3, 4, Integer.MIN_VALUE, Integer.MAX_VALUE};
        for (int k : outside) {
            due("label " + k, x.labelAt(A, B, k), NONE);
        }
    }

    /**
     * Two branches can't go back to two loops, or the one back and the other to an end, in a run:
     * the roles that the message is not for would have different parts in them.
     */
    private static void loopsGoOnAtOnce() {
        RoleParts x = run("AB{p.mX.AB{q.mY.BA{r.X},s.X},t.mY.AB{u.Y},s.e}");
        due("send p", x.send(A, P), true);
        due("receive p", x.receive(B), P);
        for (int n = 0; n < 5; n++) {
            due("A is in the loop", x.offers(A, Q) && x.offers(A, 3) && !x.offers(A, P), true);
            due("send s", x.send(A, 3), true);
            due("A is in the loop again", x.offers(A, Q) && x.offers(A, 3) && !x.offers(A, P), true);
            due("send q", x.send(A, Q), true);
            due("A receives", x.act(A), 2);
            due("receive s", x.receive(B), 3);
            due("receive q", x.receive(B), Q);
            due("B sends r", x.send(B, R), true);
            due("B is in the loop again", x.offers(B, Q) && x.offers(B, 3) && !x.offers(B, P), true);
            due("receive r", x.receive(A), R);
        }
        due("begin again", x.begin(), true);
        due("send t", x.send(A, 4), true);
        due("receive t", x.receive(B), 4);
        for (int n = 0; n < 5; n++) {
            due("send u", x.send(A, U), true);
            due("A is in the other loop", x.offers(A, U) && !x.offers(A, Q), true);
            due("receive u", x.receive(B), U);
            due("B is in the other loop", x.offers(B, U) && !x.offers(B, Q), true);
        }
        due("begin again", x.begin(), true);
        due("send s", x.send(A, 3), true);
        due("A has ended", x.act(A), 0);
        due("receive s", x.receive(B), 3);
        due("over", x.over(), true);
    }

    private static void siblingLoops() {
        RoleParts x = run("AB{p.mX.AB{q.X},r.mX.BA{s.X}}");
        due("send r", x.send(A, R), true);
        due("receive r", x.receive(B), R);
        for (int n = 0; n < 3; n++) {
            due("A receives", x.act(A), 2);
            due("B sends", x.send(B, 3), true);
            due("A receives s", x.receive(A), 3);
        }
        RoleParts y = run("AB{p.mX.AB{q.X},r.mX.BA{s.X}}");
        due("send p", y.send(A, P), true);
        due("receive p", y.receive(B), P);
        for (int n = 0; n < 3; n++) {
            due("A sends q", y.send(A, Q), true);
            due("B receives q", y.receive(B), Q);
            due("B receives", y.act(B), 2);
        }
    }

    // Promises 15, 16 and 17

    private static void moves() {
        RoleParts x = run("mX.AB{p.X}");
        due("moves at first", x.moves(), 0);
        for (int n = 0; n < 50; n++) {
            due("send", x.send(A, P), true);
            due("moves behind send", x.moves(), 2 * n + 1);
            due("receive", x.receive(B), P);
            due("moves behind receive", x.moves(), 2 * n + 2);
        }
        due("refused", x.receive(B), NONE);
        due("refused", x.send(B, P), false);
        due("moves behind refused calls", x.moves(), 100);
    }

    private static void ready() {
        RoleParts x = run("AB{p.CD{q.e}}");
        due("two senders", x.ready(), 2);
        due("send p", x.send(A, P), true);
        due("a receiver and a sender", x.ready(), 2);
        due("send q", x.send(C, Q), true);
        due("two receivers", x.ready(), 2);
        due("receive q", x.receive(D), Q);
        due("one receiver", x.ready(), 1);
        due("receive p", x.receive(B), P);
        due("none", x.ready(), 0);
        RoleParts y = run("AB{p.BC{q.CD{r.e}}}");
        due("those who wait are not ready", y.ready(), 1);
        due("none is ready in e", run("e").ready(), 0);
    }

    private static void over() {
        RoleParts x = run("AB{p.e}");
        due("over at first", x.over(), false);
        due("send", x.send(A, P), true);
        due("over with a label on the way", x.over(), false);
        due("receive", x.receive(B), P);
        due("over", x.over(), true);
        due("over again", x.over(), true);
        due("begin again", x.begin(), true);
        due("over behind begin", x.over(), false);
        due("over in e", run("e").over(), true);
        due("over without a run", of("e").over(), false);
        // D is the last one to end.
        RoleParts y = run("AB{p.CD{q.e}}");
        due("send", y.send(A, P), true);
        due("receive", y.receive(B), P);
        due("over with C and D not ended", y.over(), false);
        due("send", y.send(C, Q), true);
        due("over with D not ended", y.over(), false);
        due("receive", y.receive(D), Q);
        due("over", y.over(), true);
        due("define of e", define(y, "e"), NONE);
        due("over without a run", y.over(), false);
    }

    // What the tests are made of

    private static int define(RoleParts x, String text) {
        for (int k = 0; k < text.length(); k++) {
            due("type of '" + text.charAt(k) + "'", x.type(text.charAt(k)), true);
        }
        return x.define();
    }

    private static RoleParts of(String text) {
        RoleParts x = new RoleParts();
        due("define of " + text, define(x, text), NONE);
        return x;
    }

    private static RoleParts run(String text) {
        RoleParts x = of(text);
        due("begin with " + text, x.begin(), true);
        return x;
    }

    private static void fault(String text, int place) {
        RoleParts x = new RoleParts();
        due("define of '" + text + "'", define(x, text), place);
        due("no protocol behind '" + text + "'", x.messages(), NONE);
        due("no text behind '" + text + "'", x.define(), 0);
    }

    private static void bad(String text) {
        RoleParts x = new RoleParts();
        due("define of '" + text + "'", define(x, text), BAD);
        due("no protocol behind '" + text + "'", x.messages(), NONE);
        due("no part behind '" + text + "'", x.length(A), NONE);
        due("no text behind '" + text + "'", x.define(), 0);
    }

    private static void good(String text) {
        RoleParts x = of(text);
        due("a protocol behind '" + text + "'", x.messages() >= 0, true);
        due("no text behind '" + text + "'", x.define(), 0);
    }

    private static void allParts(String text, String... due) {
        RoleParts x = of(text);
        for (int role = 0; role < 4; role++) {
            part(text, x, role, due[role]);
        }
        boolean all = due[A] != null && due[B] != null && due[C] != null && due[D] != null;
        due("begin with " + text, x.begin(), all);
    }

    /** No text due: the part does not exist. */
    private static void part(String what, RoleParts x, int role, String due) {
        String got = null;
        if (x.length(role) != NONE) {
            StringBuilder chars = new StringBuilder();
            for (int k = 0; k < x.length(role); k++) {
                chars.append((char) x.charAt(role, k));
            }
            got = chars.toString();
        }
        if (due == null ? got != null : !due.equals(got)) {
            wrong++;
            System.out.println(what + ": the part of role " + role + " is " + got + ", due is " + due);
        }
    }

    private static void noRun(String what, RoleParts x) {
        due(what + ", moves", x.moves(), NONE);
        due(what + ", ready", x.ready(), NONE);
        due(what + ", over", x.over(), false);
        for (int role = 0; role < 4; role++) {
            due(what + ", act", x.act(role), NONE);
            due(what + ", partner", x.partner(role), NONE);
            due(what + ", offers", x.offers(role, P), false);
            due(what + ", send", x.send(role, P), false);
            due(what + ", receive", x.receive(role), NONE);
            due(what + ", onTheWay", x.onTheWay(role, (role + 1) % 4), NONE);
            due(what + ", onTheWay to itself", x.onTheWay(role, role), NONE);
            due(what + ", labelAt", x.labelAt(role, (role + 1) % 4, 0), NONE);
        }
    }

    private static void due(String call, boolean got, boolean want) {
        due(call, got ? 1 : 0, want ? 1 : 0);
    }

    private static void due(String call, int got, int want) {
        if (got != want) {
            wrong++;
            System.out.println(call + " answered " + got + ", due is " + want);
        }
    }
}
