/**
 * A RoleParts whose calls are counted, as the document promises nothing behind its 512th call, with
 * the rows of calls that many tests need.
 */
final class Probe {
    static final int NONE = -1;
    static final int BAD = -2;
    static final int A = 0;
    static final int B = 1;
    static final int C = 2;
    static final int D = 3;
    static final int P = 0;
    static final int Q = 1;
    static final int R = 2;
    static final int S = 3;
    static final int T = 4;
    static final int U = 5;

    /** The first ones outside on either side, what a careless cast or sum would take for a role, and the ends. */
    private static final int[] NO_ROLES = {-1, 4, 'A', 256, 65536, Integer.MIN_VALUE, Integer.MAX_VALUE};
    private static final int[] NO_LABELS = {-1, 6, 'p', 256, 65536, Integer.MIN_VALUE, Integer.MAX_VALUE};

    private static final int MOST_CALLS = 512;

    private final RoleParts parts = new RoleParts();
    private int calls = 0;

    static int[] noRoles() {
        return NO_ROLES.clone();
    }

    static int[] noLabels() {
        return NO_LABELS.clone();
    }

    /** An object with this protocol, which has to be a sound one. */
    static Probe of(String protocol) {
        Probe x = new Probe();
        if (x.define(protocol) != NONE) {
            throw new IllegalStateException("not taken as a sound protocol: " + protocol);
        }
        return x;
    }

    /** An object with a run of this protocol, in which each role has to have a part. */
    static Probe run(String protocol) {
        Probe x = of(protocol);
        if (!x.begin()) {
            throw new IllegalStateException("no run begins with " + protocol);
        }
        return x;
    }

    Probe typed(String text) {
        for (int k = 0; k < text.length(); k++) {
            if (!type(text.charAt(k))) {
                throw new IllegalStateException("character " + k + " is not taken of " + text);
            }
        }
        return this;
    }

    int define(String text) {
        return typed(text).define();
    }

    /** Sends and receives the labels of a text such as "A!p B?p", which all have to be taken. */
    Probe moved(String text) {
        for (String move : text.split(" ")) {
            int role = move.charAt(0) - 'A';
            int label = move.charAt(2) - 'p';
            boolean taken = move.charAt(1) == '!' ? send(role, label) : receive(role) == label;
            if (!taken) {
                throw new IllegalStateException("in '" + text + "' this is not taken: " + move);
            }
        }
        return this;
    }

    /** The role's part, asked with length and charAt; "none" when it does not exist. */
    String part(int role) {
        int length = length(role);
        if (length == NONE) {
            return "none";
        }
        StringBuilder text = new StringBuilder();
        for (int k = 0; k < length; k++) {
            text.append((char) charAt(role, k));
        }
        return text.toString();
    }

    /** The labels that the role offers, as they are written. */
    String offered(int role) {
        StringBuilder labels = new StringBuilder();
        for (int label = P; label <= U; label++) {
            if (offers(role, label)) {
                labels.append((char) ('p' + label));
            }
        }
        return labels.toString();
    }

    /** The labels on the way, asked with labelAt alone, one more than there can be. */
    String row(int from, int to) {
        StringBuilder labels = new StringBuilder();
        for (int k = 0; k <= 3; k++) {
            int label = labelAt(from, to, k);
            labels.append(label == NONE ? '-' : (char) ('p' + label));
        }
        return labels.toString();
    }

    /** All that can be asked, but for the text, which no call shows: 120 calls and one for each character of a part. */
    String everything() {
        StringBuilder all = new StringBuilder();
        all.append(messages()).append(" messages, ").append(moves()).append(" moves, ");
        all.append(ready()).append(" ready, over ").append(over());
        for (int role = A; role <= D; role++) {
            all.append("; ").append((char) ('A' + role)).append(' ').append(part(role));
            all.append(" act ").append(act(role)).append(" partner ").append(partner(role));
            all.append(" offers '").append(offered(role)).append("' row");
            for (int to = A; to <= D; to++) {
                all.append(' ').append(onTheWay(role, to)).append(row(role, to));
            }
        }
        return all.toString();
    }

    boolean type(char c) {
        count();
        return parts.type(c);
    }

    int define() {
        count();
        return parts.define();
    }

    int messages() {
        count();
        return parts.messages();
    }

    int length(int role) {
        count();
        return parts.length(role);
    }

    int charAt(int role, int k) {
        count();
        return parts.charAt(role, k);
    }

    boolean begin() {
        count();
        return parts.begin();
    }

    int act(int role) {
        count();
        return parts.act(role);
    }

    int partner(int role) {
        count();
        return parts.partner(role);
    }

    boolean offers(int role, int label) {
        count();
        return parts.offers(role, label);
    }

    boolean send(int role, int label) {
        count();
        return parts.send(role, label);
    }

    int receive(int role) {
        count();
        return parts.receive(role);
    }

    int onTheWay(int from, int to) {
        count();
        return parts.onTheWay(from, to);
    }

    int labelAt(int from, int to, int k) {
        count();
        return parts.labelAt(from, to, k);
    }

    int moves() {
        count();
        return parts.moves();
    }

    int ready() {
        count();
        return parts.ready();
    }

    boolean over() {
        count();
        return parts.over();
    }

    RoleParts inside() {
        return parts;
    }

    private void count() {
        calls++;
        if (calls > MOST_CALLS) {
            throw new IllegalStateException("a test makes more calls of one object than the document promises");
        }
    }
}
