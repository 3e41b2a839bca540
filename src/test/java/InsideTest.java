import java.lang.reflect.Field;

/**
 * What the document asks for in states that no row of calls was found to reach: the parts of a
 * sound protocol fit together, so that a role is never sent a label that it does not offer, and
 * nothing is left on the way when all have ended. The labels are put on the way from inside.
 */
public final class InsideTest {
    private static final int NONE = Probe.NONE;
    private static final int BAD = Probe.BAD;
    private static final int A = Probe.A;
    private static final int B = Probe.B;
    private static final int P = Probe.P;
    private static final int Q = Probe.Q;
    private static final int U = Probe.U;

    private static final Report report = new Report();

    public static void main(String[] args) {
        report.runAll(
                InsideTest::receiveOfALabelNotOffered,
                InsideTest::receiveOfTheFirstAlone,
                InsideTest::receiveOfARoleThatSends,
                InsideTest::readyWithALabelNotOffered,
                InsideTest::overWithALabelOnTheWay,
                InsideTest::overWithOneRoleNotEnded);
    }

    private static void receiveOfALabelNotOffered() {
        report.sentence("Promise 12", "BAD, changing nothing, when it does not offer that label");
        for (int label = P; label <= U; label++) {
            Probe x = Probe.run("AB{p.e,r.e,t.e}").typed("AB{u.e");
            put(x, A, B, label);
            boolean offered = label % 2 == 0;
            String before = x.everything();
            report.due("receive of label " + label, x.receive(B), offered ? label : BAD);
            if (!offered) {
                report.due("all that can be asked behind BAD", x.everything(), before);
                report.due("receive again", x.receive(B), BAD);
                report.due("the text behind BAD", x.define("}"), NONE);
            }
        }
    }

    private static void receiveOfTheFirstAlone() {
        report.sentence("Promise 12", "The role receives the first label that is on the way from its partner");
        Probe x = Probe.run("mX.AB{p.X}");
        put(x, A, B, Q, P);
        report.due("receive of q before p", x.receive(B), BAD);
        report.due("the row", x.row(A, B), "qp--");
        put(x, A, B, P, Q);
        report.due("receive of p before q", x.receive(B), P);
        report.due("receive of q behind p", x.receive(B), BAD);
        report.due("the row", x.row(A, B), "q---");
    }

    private static void receiveOfARoleThatSends() {
        report.sentence("Promise 12", "it does not receive");
        Probe x = Probe.run("AB{p.e}");
        put(x, B, A, P);
        String before = x.everything();
        report.due("receive of A, which sends p to B", x.receive(A), NONE);
        report.due("all that can be asked behind it", x.everything(), before);
        Probe y = Probe.run("e");
        put(y, A, A, P);
        put(y, B, A, P);
        report.due("receive of A, which has ended", y.receive(A), NONE);
    }

    private static void readyWithALabelNotOffered() {
        report.sentence("Promise 16", "the first label on the way from their partner is one they offer");
        Probe x = Probe.run("mX.AB{p.X}");
        put(x, A, B, P, Q);
        report.due("A, and B with p before q", x.ready(), 2);
        put(x, A, B, Q, P);
        report.due("A, and not B with q before p", x.ready(), 1);
        put(x, A, B, P, Q, Q);
        report.due("B with p before q, and not A", x.ready(), 1);
        put(x, A, B, Q, P, P);
        report.due("neither A nor B", x.ready(), 0);
    }

    private static void overWithALabelOnTheWay() {
        report.sentence("Promise 17", "all roles have ended and nothing is on the way");
        for (int from = 0; from < 4; from++) {
            for (int to = 0; to < 4; to++) {
                Probe x = Probe.run("e");
                report.due("nothing is on the way", x.over(), true);
                put(x, from, to, P);
                report.due("one is on the way from " + from + " to " + to, x.over(), false);
            }
        }
    }

    private static void overWithOneRoleNotEnded() {
        report.sentence("Promise 17", "all roles have ended");
        String roles = "ABCD";
        for (int last = 0; last < 4; last++) {
            int from = (last + 1) % 4;
            Probe x = Probe.run("" + roles.charAt(from) + roles.charAt(last) + "{p.e}");
            report.due("send", x.send(from, P), true);
            put(x, from, last);
            report.due("nothing is on the way", x.onTheWay(from, last), 0);
            report.due("role " + last + " alone has not ended", x.over(), false);
        }
    }

    /** Makes these the labels on the way. */
    private static void put(Probe x, int from, int to, int... labels) {
        try {
            Object[] rows = (Object[]) field(RoleParts.class, "rows").get(x.inside());
            Object row = rows[from * 4 + to];
            int[] kept = (int[]) field(row.getClass(), "labels").get(row);
            System.arraycopy(labels, 0, kept, 0, labels.length);
            field(row.getClass(), "size").setInt(row, labels.length);
        } catch (ReflectiveOperationException e) {
            throw new IllegalStateException("RoleParts keeps its labels in another way: " + e, e);
        }
    }

    private static Field field(Class<?> type, String name) throws NoSuchFieldException {
        Field field = type.getDeclaredField(name);
        field.setAccessible(true);
        return field;
    }
}
