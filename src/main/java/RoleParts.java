/**
 * Reads a protocol between four roles, works out the part of each role, and runs the roles by
 * their parts.
 *
 * <p>Protocols and parts are kept as they are written: both are short, and a branch or a loop of
 * either begins with three characters of a fixed form, so that no tree is needed.
 */
public final class RoleParts {
    public static final int NONE = -1;
    public static final int BAD = -2;

    private static final int ROLES = 4;
    private static final int LABELS = 6;
    private static final int VARIABLES = 3;
    private static final int MOST_CHARS = 60;
    private static final int MOST_ON_THE_WAY = 3;

    private static final char FIRST_TYPED = 32;
    private static final char LAST_TYPED = 126;
    private static final char NO_CHAR = 0;

    private static final int ENDED = 0;
    private static final int SENDS = 1;
    private static final int RECEIVES = 2;

    /** The characters of "mX.", and of "{p." or ",p.". */
    private static final int LOOP_WIDTH = 3;
    private static final int BRANCH_WIDTH = 3;

    private final Text typed = new Text();
    private final Grammar grammar = new Grammar();
    private final Soundness soundness = new Soundness();
    private final Player[] players = new Player[ROLES];
    private final PartWriter[] writers = new PartWriter[ROLES];
    private final Row[] rows = new Row[ROLES * ROLES];
    private int messageCount = NONE;
    private boolean hasRun = false;
    private int moveCount = 0;

    public RoleParts() {
        for (int role = 0; role < ROLES; role++) {
            Text part = new Text();
            players[role] = new Player(part);
            writers[role] = new PartWriter(typed, (char) ('A' + role), part);
        }
        for (int k = 0; k < ROLES * ROLES; k++) {
            rows[k] = new Row();
        }
    }

    public boolean type(char c) {
        return c >= FIRST_TYPED && c <= LAST_TYPED && typed.append(c);
    }

    public int define() {
        int answer = judgeTyped();
        if (answer == NONE) {
            adoptTyped();
        }
        typed.shorten(0);
        return answer;
    }

    public int messages() {
        return messageCount;
    }

    public int length(int role) {
        return hasPart(role) ? players[role].part.size() : NONE;
    }

    public int charAt(int role, int k) {
        if (!hasPart(role) || k < 0 || k >= players[role].part.size()) {
            return NONE;
        }
        return players[role].part.get(k);
    }

    public boolean begin() {
        for (int role = 0; role < ROLES; role++) {
            if (!hasPart(role)) {
                return false;
            }
        }
        for (int role = 0; role < ROLES; role++) {
            players[role].toBeginning();
        }
        for (int k = 0; k < ROLES * ROLES; k++) {
            rows[k].clear();
        }
        moveCount = 0;
        hasRun = true;
        return true;
    }

    public int act(int role) {
        Player player = playing(role);
        return player == null ? NONE : player.action();
    }

    public int partner(int role) {
        Player player = playing(role);
        return player == null ? NONE : player.otherRole();
    }

    public boolean offers(int role, int label) {
        Player player = playing(role);
        return player != null && player.behindLabel(label) != NONE;
    }

    public boolean send(int role, int label) {
        Player player = playing(role);
        if (player == null || player.action() != SENDS) {
            return false;
        }
        Row row = rowBetween(role, player.otherRole());
        if (row == null || row.isFull() || !player.follow(label)) {
            return false;
        }
        row.append(label);
        moveCount++;
        return true;
    }

    public int receive(int role) {
        Player player = playing(role);
        if (player == null || player.action() != RECEIVES) {
            return NONE;
        }
        Row row = rowBetween(player.otherRole(), role);
        if (row == null || row.size() == 0) {
            return NONE;
        }
        int label = row.get(0);
        if (!player.follow(label)) {
            return BAD;
        }
        row.removeFirst();
        moveCount++;
        return label;
    }

    public int onTheWay(int from, int to) {
        Row row = rowBetween(from, to);
        return row == null ? NONE : row.size();
    }

    public int labelAt(int from, int to, int k) {
        Row row = rowBetween(from, to);
        return row == null ? NONE : row.get(k);
    }

    public int moves() {
        return hasRun ? moveCount : NONE;
    }

    public int ready() {
        if (!hasRun) {
            return NONE;
        }
        int count = 0;
        for (int role = 0; role < ROLES; role++) {
            if (canGoOn(role)) {
                count++;
            }
        }
        return count;
    }

    public boolean over() {
        return hasRun && allEnded() && nothingOnTheWay();
    }

    /** The fault of what was typed, BAD when it is not sound, NONE when it can be the protocol. */
    private int judgeTyped() {
        int fault = grammar.faultOf(typed);
        if (fault != NONE) {
            return fault;
        }
        return soundness.holdsFor(typed) ? NONE : BAD;
    }

    private void adoptTyped() {
        messageCount = typed.countOf('{');
        for (int role = 0; role < ROLES; role++) {
            players[role].partExists = writers[role].writePart();
        }
        hasRun = false;
    }

    /** Before the first protocol no part exists, so there is nothing else to ask. */
    private boolean hasPart(int role) {
        return isRoleNumber(role) && players[role].partExists;
    }

    /** The role in the run; null when there is no run or no such role. */
    private Player playing(int role) {
        return hasRun && isRoleNumber(role) ? players[role] : null;
    }

    private Row rowBetween(int from, int to) {
        boolean isThere = hasRun && isRoleNumber(from) && isRoleNumber(to);
        return isThere ? rows[from * ROLES + to] : null;
    }

    private boolean canGoOn(int role) {
        Player player = playing(role);
        if (player == null) {
            return false;
        }
        int action = player.action();
        if (action == SENDS) {
            Row row = rowBetween(role, player.otherRole());
            return row != null && !row.isFull();
        }
        if (action == RECEIVES) {
            Row row = rowBetween(player.otherRole(), role);
            return row != null && player.behindLabel(row.get(0)) != NONE;
        }
        return false;
    }

    private boolean allEnded() {
        for (int role = 0; role < ROLES; role++) {
            if (players[role].action() != ENDED) {
                return false;
            }
        }
        return true;
    }

    private boolean nothingOnTheWay() {
        for (int k = 0; k < ROLES * ROLES; k++) {
            if (rows[k].size() != 0) {
                return false;
            }
        }
        return true;
    }

    private static boolean isRoleNumber(int role) {
        return role >= 0 && role < ROLES;
    }

    private static boolean isRole(char c) {
        return c >= 'A' && c < 'A' + ROLES;
    }

    private static boolean isLabel(char c) {
        return c >= 'p' && c < 'p' + LABELS;
    }

    private static boolean isVariable(char c) {
        return c >= 'X' && c < 'X' + VARIABLES;
    }

    /** A row of at most 60 characters. */
    private static final class Text {
        private final char[] chars = new char[MOST_CHARS];
        private int size = 0;

        int size() {
            return size;
        }

        /** Outside the row it answers a character of no protocol, so readers may look ahead. */
        char get(int k) {
            return k >= 0 && k < size ? chars[k] : NO_CHAR;
        }

        boolean append(char c) {
            return insert(size, c);
        }

        boolean insert(int at, char c) {
            if (size >= MOST_CHARS || at < 0 || at > size) {
                return false;
            }
            for (int k = size; k > at; k--) {
                chars[k] = chars[k - 1];
            }
            chars[at] = c;
            size++;
            return true;
        }

        void shorten(int newSize) {
            if (newSize >= 0 && newSize < size) {
                size = newSize;
            }
        }

        int countOf(char c) {
            int count = 0;
            for (int k = 0; k < size; k++) {
                if (get(k) == c) {
                    count++;
                }
            }
            return count;
        }

        boolean hasFrom(int start, char c) {
            for (int k = start; k < size; k++) {
                if (get(k) == c) {
                    return true;
                }
            }
            return false;
        }

        /** Whether what stands from middle on is the same as what stands from start to middle. */
        boolean isTwice(int start, int middle) {
            int width = middle - start;
            if (size - middle != width) {
                return false;
            }
            for (int k = 0; k < width; k++) {
                if (get(start + k) != get(middle + k)) {
                    return false;
                }
            }
            return true;
        }
    }

    /**
     * Finds the fault of a text. Only messages nest with a closing character, and a loop ends where
     * its body does, so that the number of open messages is all there is to remember.
     */
    private static final class Grammar {
        private static final int PROTOCOL = 0;
        private static final int VARIABLE = 1;
        private static final int SECOND_ROLE = 2;
        private static final int BRACE = 3;
        private static final int LABEL = 4;
        private static final int POINT = 5;
        private static final int AFTER_PROTOCOL = 6;
        private static final int NOTHING = 7;

        private int expected = PROTOCOL;
        private int openMessages = 0;

        /** The fault, or NONE when the text is a protocol. */
        int faultOf(Text text) {
            expected = PROTOCOL;
            openMessages = 0;
            for (int k = 0; k < text.size(); k++) {
                expected = next(text.get(k));
                if (expected == NOTHING) {
                    return k;
                }
            }
            return expected == AFTER_PROTOCOL && openMessages == 0 ? NONE : text.size();
        }

        /** What is expected behind c; NOTHING when c itself was not expected. */
        private int next(char c) {
            switch (expected) {
                case PROTOCOL:
                    return nextInProtocol(c);
                case VARIABLE:
                    return isVariable(c) ? POINT : NOTHING;
                case SECOND_ROLE:
                    return isRole(c) ? BRACE : NOTHING;
                case BRACE:
                    return nextAtBrace(c);
                case LABEL:
                    return isLabel(c) ? POINT : NOTHING;
                case POINT:
                    return c == '.' ? PROTOCOL : NOTHING;
                default:
                    return nextAfterProtocol(c);
            }
        }

        private int nextInProtocol(char c) {
            if (c == 'e' || isVariable(c)) {
                return AFTER_PROTOCOL;
            }
            if (c == 'm') {
                return VARIABLE;
            }
            return isRole(c) ? SECOND_ROLE : NOTHING;
        }

        private int nextAtBrace(char c) {
            if (c != '{') {
                return NOTHING;
            }
            openMessages++;
            return LABEL;
        }

        private int nextAfterProtocol(char c) {
            if (openMessages == 0) {
                return NOTHING;
            }
            if (c == ',') {
                return LABEL;
            }
            if (c != '}') {
                return NOTHING;
            }
            openMessages--;
            return AFTER_PROTOCOL;
        }
    }

    /** Tells whether a text that is a protocol is sound. Sets of variables and labels are bits. */
    private static final class Soundness {
        /** For each open message the loops around it: a return inside it may go to these alone. */
        private final int[] loopsAround = new int[MOST_CHARS];
        private final int[] labelsUsed = new int[MOST_CHARS];
        private int openMessages = 0;
        private int openLoops = 0;

        boolean holdsFor(Text protocol) {
            openMessages = 0;
            openLoops = 0;
            loopsAround[0] = 0;
            for (int k = 0; k < protocol.size(); k++) {
                if (!isSoundAt(protocol, k)) {
                    return false;
                }
            }
            return true;
        }

        private boolean isSoundAt(Text protocol, int k) {
            char c = protocol.get(k);
            switch (c) {
                case 'm':
                    return openLoop(protocol.get(k + 1));
                case '{':
                    return protocol.get(k - 2) != protocol.get(k - 1)
                            && openMessage()
                            && openBranch(protocol.get(k + 1));
                case ',':
                    return openBranch(protocol.get(k + 1));
                case '}':
                    openMessages--;
                    return isInBounds();
                default:
                    boolean isReturn = isVariable(c) && protocol.get(k - 1) != 'm';
                    return !isReturn || isLoopAroundMessage(c);
            }
        }

        private boolean openLoop(char variable) {
            int bit = 1 << (variable - 'X');
            if ((openLoops & bit) != 0) {
                return false;
            }
            openLoops |= bit;
            return true;
        }

        private boolean openMessage() {
            openMessages++;
            if (!isInBounds()) {
                return false;
            }
            loopsAround[openMessages] = openLoops;
            labelsUsed[openMessages] = 0;
            return true;
        }

        private boolean openBranch(char label) {
            int bit = 1 << (label - 'p');
            if (!isInBounds() || (labelsUsed[openMessages] & bit) != 0) {
                return false;
            }
            labelsUsed[openMessages] |= bit;
            // The loops of the branch before end with it.
            openLoops = loopsAround[openMessages];
            return true;
        }

        private boolean isLoopAroundMessage(char variable) {
            int bit = 1 << (variable - 'X');
            return isInBounds() && (loopsAround[openMessages] & bit) != 0;
        }

        private boolean isInBounds() {
            return openMessages >= 0 && openMessages < MOST_CHARS;
        }
    }

    /**
     * Writes the part of a role in a sound protocol. A part that does not exist anywhere inside
     * makes the whole one not exist, so every method answers false then and all stop.
     */
    private static final class PartWriter {
        private static final int MOST_DEPTH = 40;

        private final Text protocol;
        private final char role;
        private final Text part;
        private int place = 0;

        PartWriter(Text protocol, char role, Text part) {
            this.protocol = protocol;
            this.role = role;
            this.part = part;
        }

        /** Answers whether the part exists. It is never longer than the protocol. */
        boolean writePart() {
            place = 0;
            part.shorten(0);
            return writeProtocol(0);
        }

        private boolean writeProtocol(int depth) {
            if (depth > MOST_DEPTH) {
                return false;
            }
            char c = protocol.get(place);
            if (c == 'm') {
                return writeLoop(depth);
            }
            if (isRole(c)) {
                return writeMessage(depth);
            }
            place++;
            return part.append(c);
        }

        private boolean writeLoop(int depth) {
            char variable = protocol.get(place + 1);
            int start = part.size();
            place += LOOP_WIDTH;
            return writeProtocol(depth + 1) && closeLoop(start, variable);
        }

        /** Whether a loop is needed shows only when the part in its body is there. */
        private boolean closeLoop(int start, char variable) {
            if (part.size() == start + 1 && part.get(start) == variable) {
                part.shorten(start);
                return part.append('e');
            }
            if (!part.hasFrom(start, variable)) {
                return true;
            }
            return part.insert(start, '.')
                    && part.insert(start, variable)
                    && part.insert(start, 'm');
        }

        private boolean writeMessage(int depth) {
            char from = protocol.get(place);
            char to = protocol.get(place + 1);
            place += 2;
            if (role == from) {
                return part.append(to) && part.append('!') && writeOwnBranches(depth);
            }
            if (role == to) {
                return part.append(from) && part.append('?') && writeOwnBranches(depth);
            }
            return writeCommonPart(depth);
        }

        private boolean writeOwnBranches(int depth) {
            for (int n = 0; n < MOST_CHARS && protocol.get(place) != '}'; n++) {
                for (int k = 0; k < BRANCH_WIDTH; k++) {
                    part.append(protocol.get(place + k));
                }
                place += BRANCH_WIDTH;
                if (!writeProtocol(depth + 1)) {
                    return false;
                }
            }
            place++;
            return part.append('}');
        }

        private boolean writeCommonPart(int depth) {
            int start = part.size();
            int end = start;
            for (int n = 0; n < MOST_CHARS && protocol.get(place) != '}'; n++) {
                place += BRANCH_WIDTH;
                if (!writeProtocol(depth + 1)) {
                    return false;
                }
                if (n == 0) {
                    end = part.size();
                } else if (!part.isTwice(start, end)) {
                    return false;
                }
                part.shorten(end);
            }
            place++;
            return true;
        }
    }

    /** A role's part, and where the role stands in it. */
    private static final class Player {
        private final Text part;
        private boolean partExists = false;
        private int place = 0;

        Player(Text part) {
            this.part = part;
        }

        void toBeginning() {
            place = 0;
            goOnAtOnce();
        }

        int action() {
            if (!isRole(part.get(place))) {
                return ENDED;
            }
            return part.get(place + 1) == '!' ? SENDS : RECEIVES;
        }

        int otherRole() {
            char c = part.get(place);
            return isRole(c) ? c - 'A' : NONE;
        }

        /** The place behind the label's point; NONE when the label is not offered. */
        int behindLabel(int label) {
            if (label < 0 || label >= LABELS || action() == ENDED) {
                return NONE;
            }
            int open = 0;
            for (int k = place + 2; k < part.size(); k++) {
                char c = part.get(k);
                if (c == '{') {
                    open++;
                }
                if (open == 1 && (c == '{' || c == ',') && part.get(k + 1) == 'p' + label) {
                    return k + BRANCH_WIDTH;
                }
                if (c == '}') {
                    open--;
                }
                if (open == 0) {
                    return NONE;
                }
            }
            return NONE;
        }

        /** Goes on behind the label's point; false, changing nothing, when it is not offered. */
        boolean follow(int label) {
            int behind = behindLabel(label);
            if (behind == NONE) {
                return false;
            }
            place = behind;
            goOnAtOnce();
            return true;
        }

        private void goOnAtOnce() {
            for (int n = 0; n < MOST_CHARS; n++) {
                char c = part.get(place);
                if (c == 'm') {
                    place += LOOP_WIDTH;
                } else if (isVariable(c)) {
                    place = bodyOfLoop(c);
                } else {
                    return;
                }
            }
        }

        /**
         * No loop is inside one with the same variable, so the last one that begins before a return
         * with its variable is the one around it.
         */
        private int bodyOfLoop(char variable) {
            for (int k = place - 1; k >= 0; k--) {
                if (part.get(k) == 'm' && part.get(k + 1) == variable) {
                    return k + LOOP_WIDTH;
                }
            }
            return place;
        }
    }

    /** The labels on the way from one role to another, the first that was sent in front. */
    private static final class Row {
        private final int[] labels = new int[MOST_ON_THE_WAY];
        private int size = 0;

        int size() {
            return size;
        }

        boolean isFull() {
            return size >= MOST_ON_THE_WAY;
        }

        int get(int k) {
            return k >= 0 && k < size ? labels[k] : NONE;
        }

        void clear() {
            size = 0;
        }

        void append(int label) {
            if (size < MOST_ON_THE_WAY) {
                labels[size] = label;
                size++;
            }
        }

        void removeFirst() {
            for (int k = 1; k < size; k++) {
                labels[k - 1] = labels[k];
            }
            if (size > 0) {
                size--;
            }
        }
    }
}
