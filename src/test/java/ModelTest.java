import java.util.ArrayDeque;
import java.util.ArrayList;
import java.util.Deque;
import java.util.HashMap;
import java.util.List;
import java.util.Map;
import java.util.regex.Pattern;

/**
 * Compares RoleParts with a second program that follows the document in another way: by trees, and
 * with the fault found by trying to complete each beginning of the text.
 */
public final class ModelTest {
    private static final int OBJECTS = 4000;
    private static final int MOST_CALLS = 512;
    private static final int MOST_REPORTS = 40;

    private static int wrong = 0;

    public static void main(String[] args) {
        Chance chance = new Chance(20261115L);
        Tally tally = new Tally();
        for (int n = 0; n < OBJECTS; n++) {
            new Session(n, chance, tally).play();
        }
        tally.check();
        System.out.println(wrong == 0 ? "all answers are as due" : wrong + " answers are not as due");
        if (wrong != 0) {
            System.exit(1);
        }
    }

    private static void report(String text) {
        wrong++;
        if (wrong <= MOST_REPORTS) {
            System.out.println(text);
        }
    }

    /** Numbers that are the same in every run of the test. */
    private static final class Chance {
        private long state;

        Chance(long seed) {
            state = seed;
        }

        int below(int bound) {
            state = state * 6364136223846793005L + 1442695040888963407L;
            return (int) ((state >>> 33) % bound);
        }

        boolean oneIn(int n) {
            return below(n) == 0;
        }

        char of(String chars) {
            return chars.charAt(below(chars.length()));
        }
    }

    /** How much the made-up calls reach, so that a test that tests little does not pass. */
    private static final class Tally {
        int faults;
        int bad;
        int sound;
        int missingParts;
        int runs;
        int runsOver;
        int fullRows;
        int sends;
        int receives;

        void check() {
            System.out.println("faults " + faults + ", bad " + bad + ", sound " + sound + ", without a part "
                    + missingParts + ", runs " + runs + ", over " + runsOver + ", full rows " + fullRows
                    + ", sends " + sends + ", receives " + receives);
            boolean enough = faults > 500 && bad > 500 && sound > 500 && missingParts > 500 && runs > 500
                    && runsOver > 100 && fullRows > 100 && sends > 5000 && receives > 5000;
            if (!enough) {
                report("the made-up calls reach too little");
            }
        }
    }

    /** The calls of one object, each made of the model too. */
    private static final class Session {
        private final int number;
        private final Chance chance;
        private final Tally tally;
        private final Writer writer;
        private final RoleParts x = new RoleParts();
        private final Model model = new Model();
        private int calls = 0;
        private String last = "";

        Session(int number, Chance chance, Tally tally) {
            this.number = number;
            this.chance = chance;
            this.tally = tally;
            this.writer = new Writer(chance);
        }

        void play() {
            askAll();
            while (calls < MOST_CALLS - 250) {
                typeAndDefine(writer.text());
                askSome();
                if (chance.oneIn(3)) {
                    askAll();
                }
                int begins = chance.below(3);
                for (int n = 0; n < begins && calls < MOST_CALLS - 160; n++) {
                    begin();
                    run(chance.below(40));
                }
            }
            askAll();
        }

        private void typeAndDefine(String text) {
            for (int k = 0; k < text.length(); k++) {
                type(text.charAt(k));
                if (chance.oneIn(60)) {
                    type((char) chance.below(65536));
                    type((char) chance.below(32));
                }
            }
            last = text;
            int due = model.define();
            tally.faults += due >= 0 ? 1 : 0;
            tally.bad += due == -2 ? 1 : 0;
            tally.sound += due == -1 ? 1 : 0;
            due("define()", x.define(), due);
        }

        private void type(char c) {
            due("type((char) " + (int) c + ")", x.type(c), model.type(c));
        }

        private void begin() {
            boolean due = model.begin();
            tally.runs += due ? 1 : 0;
            tally.missingParts += !due && model.protocol != null ? 1 : 0;
            due("begin()", x.begin(), due);
        }

        private void run(int steps) {
            // In some runs a sender is far ahead, so that rows fill.
            int lazy = chance.below(4);
            for (int n = 0; n < steps && calls < MOST_CALLS - 120; n++) {
                int role = chance.below(4);
                if (model.act(role) == 2 && chance.below(4) >= lazy) {
                    receive(role);
                } else if (model.act(role) == 1) {
                    send(role, labelFor(role));
                } else if (chance.oneIn(4)) {
                    receive(role);
                    send(role, chance.below(6));
                }
                ask();
            }
            tally.runsOver += model.over() && model.moves() > 0 ? 1 : 0;
        }

        private int labelFor(int role) {
            for (int n = 0; n < 20; n++) {
                int label = chance.below(6);
                if (model.offers(role, label)) {
                    return label;
                }
            }
            return chance.below(8) - 1;
        }

        private void send(int role, int label) {
            tally.fullRows += model.act(role) == 1 && model.onTheWay(role, model.partner(role)) == 3 ? 1 : 0;
            boolean due = model.send(role, label);
            tally.sends += due ? 1 : 0;
            due("send(" + role + ", " + label + ")", x.send(role, label), due);
        }

        private void receive(int role) {
            int due = model.receive(role);
            tally.receives += due >= 0 ? 1 : 0;
            due("receive(" + role + ")", x.receive(role), due);
        }

        private void askSome() {
            for (int n = 0; n < 6; n++) {
                ask();
            }
        }

        private void ask() {
            int role = chance.below(6) - 1;
            int other = chance.below(6) - 1;
            switch (chance.below(11)) {
                case 0 -> due("messages()", x.messages(), model.messages());
                case 1 -> askLength(role);
                case 2 -> askChar(role, chance.below(24) - 1);
                case 3 -> due("act(" + role + ")", x.act(role), model.act(role));
                case 4 -> due("partner(" + role + ")", x.partner(role), model.partner(role));
                case 5 -> askOffers(role, chance.below(8) - 1);
                case 6 -> askOnTheWay(role, other);
                case 7 -> askLabel(role, other, chance.below(5) - 1);
                case 8 -> due("moves()", x.moves(), model.moves());
                case 9 -> due("ready()", x.ready(), model.ready());
                default -> due("over()", x.over(), model.over());
            }
        }

        /** 68 calls. */
        private void askAll() {
            due("messages()", x.messages(), model.messages());
            due("moves()", x.moves(), model.moves());
            due("ready()", x.ready(), model.ready());
            due("over()", x.over(), model.over());
            for (int role = 0; role < 4; role++) {
                askLength(role);
                askChar(role, 0);
                askChar(role, Math.max(0, model.length(role)) - 1);
                askChar(role, model.length(role));
                due("act(" + role + ")", x.act(role), model.act(role));
                due("partner(" + role + ")", x.partner(role), model.partner(role));
                for (int label = 0; label < 6; label++) {
                    askOffers(role, label);
                }
                for (int to = 0; to < 4; to++) {
                    askOnTheWay(role, to);
                }
            }
        }

        private void askLength(int role) {
            due("length(" + role + ")", x.length(role), model.length(role));
        }

        private void askChar(int role, int k) {
            due("charAt(" + role + ", " + k + ")", x.charAt(role, k), model.charAt(role, k));
        }

        private void askOffers(int role, int label) {
            due("offers(" + role + ", " + label + ")", x.offers(role, label), model.offers(role, label));
        }

        private void askOnTheWay(int from, int to) {
            due("onTheWay(" + from + ", " + to + ")", x.onTheWay(from, to), model.onTheWay(from, to));
        }

        private void askLabel(int from, int to, int k) {
            due("labelAt(" + from + ", " + to + ", " + k + ")", x.labelAt(from, to, k), model.labelAt(from, to, k));
        }

        private void due(String call, boolean got, boolean due) {
            due(call, got ? 1 : 0, due ? 1 : 0);
        }

        private void due(String call, int got, int due) {
            calls++;
            if (calls > MOST_CALLS) {
                report("object " + number + ": more calls than the document allows");
            }
            if (got != due) {
                report("object " + number + ", call " + calls + ", behind '" + last + "': " + call + " answered "
                        + got + ", due is " + due);
            }
        }
    }

    /** Makes up texts: protocols that can run, any protocols, and spoiled ones. */
    private static final class Writer {
        private static final String SPOILERS = "emXYZABCD{}.,pqrstu eE";
        private final Chance chance;

        Writer(Chance chance) {
            this.chance = chance;
        }

        String text() {
            for (int n = 0; n < 1000; n++) {
                String text = chance.below(3) == 0 ? any(4, "") : runnable(3, "e", "XYZ");
                if (chance.below(4) == 0) {
                    text = spoiled(text);
                }
                boolean tooLong = text.length() > 60 && !chance.oneIn(50);
                boolean tooShort = text.length() < 5 && !chance.oneIn(10);
                if (!tooLong && !tooShort) {
                    return text.substring(0, Math.min(text.length(), 64));
                }
            }
            return "e";
        }

        private String any(int depth, String variables) {
            int kind = chance.below(depth > 0 ? 8 : 2);
            if (kind < 2) {
                return variables.isEmpty() || chance.oneIn(3)
                        ? (chance.oneIn(15) ? "" + chance.of("XYZ") : "e")
                        : "" + chance.of(variables);
            }
            if (kind < 4) {
                char variable = chance.of("XYZ");
                return "m" + variable + "." + any(depth - 1, variables + variable);
            }
            StringBuilder message = new StringBuilder(roles(chance.oneIn(25)));
            int branches = 1 + chance.below(3);
            String labels = labels(branches, chance.oneIn(25));
            for (int n = 0; n < branches; n++) {
                message.append(n == 0 ? '{' : ',').append(labels.charAt(n)).append('.');
                message.append(any(depth - 1, variables));
            }
            return message.append('}').toString();
        }

        /** What roles outside a message do is the same in all its branches, and so is the leaf. */
        private String runnable(int depth, String leaf, String freeVariables) {
            int kind = chance.below(6);
            if (depth == 0 || kind == 0) {
                return leaf;
            }
            if (kind < 3 && !freeVariables.isEmpty()) {
                char variable = chance.of(freeVariables);
                String others = freeVariables.replace("" + variable, "");
                String inner = chance.oneIn(4) ? leaf : "" + variable;
                return "m" + variable + "." + guarded(depth, inner, others);
            }
            return guarded(depth, leaf, freeVariables);
        }

        private String guarded(int depth, String leaf, String freeVariables) {
            String roles = roles(false);
            String common = runnable(depth - 1, leaf, freeVariables);
            int branches = 1 + chance.below(3);
            String labels = labels(branches, false);
            StringBuilder message = new StringBuilder(roles);
            for (int n = 0; n < branches; n++) {
                message.append(n == 0 ? '{' : ',').append(labels.charAt(n)).append('.');
                message.append(between(roles, common, chance.below(2)));
            }
            return message.append('}').toString();
        }

        /** Some messages between the two roles of the message before, and then the common text. */
        private String between(String roles, String common, int count) {
            if (count == 0) {
                boolean canLoop = common.equals("e") && chance.oneIn(4);
                return canLoop ? "mX." + roles + "{" + chance.of("pqrstu") + ".X}" : common;
            }
            String way = chance.oneIn(2) ? roles : "" + roles.charAt(1) + roles.charAt(0);
            return way + "{" + chance.of("pqrstu") + "." + between(roles, common, count - 1) + "}";
        }

        private String roles(boolean same) {
            char from = chance.of("ABCD");
            char to = same ? from : chance.of("ABCD".replace("" + from, ""));
            return "" + from + to;
        }

        private String labels(int count, boolean any) {
            String free = "pqrstu";
            StringBuilder labels = new StringBuilder();
            for (int n = 0; n < count; n++) {
                char label = chance.of(any ? "pqrstu" : free);
                free = free.replace("" + label, "");
                labels.append(label);
            }
            return labels.toString();
        }

        private String spoiled(String text) {
            int place = chance.below(text.length());
            String before = text.substring(0, place);
            String behind = text.substring(place);
            return switch (chance.below(4)) {
                case 0 -> before;
                case 1 -> before + chance.of(SPOILERS) + behind;
                case 2 -> before + chance.of(SPOILERS) + behind.substring(1);
                default -> before + behind.substring(1);
            };
        }
    }

    private interface Node {}

    private record End() implements Node {}

    private record Return(char variable) implements Node {}

    private record Loop(char variable, Node body) implements Node {}

    /** The head is the two roles in a protocol, the partner and its sign in a part. */
    private record Message(String head, String labels, List<Node> branches) implements Node {}

    /** The document, as plainly as it can be said. */
    private static final class Model {
        private static final String[] COMPLETIONS = {"", "e", ".e", "X.e", "B{p.e", "{p.e", "p.e"};
        private static final Pattern LEAF = Pattern.compile("(?<!m)[XYZ]");
        private static final Pattern INSIDE =
                Pattern.compile("m[XYZ]\\.e|[A-D][A-D]\\{[p-u]\\.e(,[p-u]\\.e)*\\}");
        private final StringBuilder text = new StringBuilder();
        private Node protocol = null;
        private final String[] parts = new String[4];
        private boolean running = false;
        private final Node[] standing = new Node[4];
        private final List<Map<Character, Node>> loops = new ArrayList<>();
        private final Map<String, Deque<Integer>> rows = new HashMap<>();
        private int moves = 0;

        boolean type(char c) {
            if (c < 32 || c > 126 || text.length() == 60) {
                return false;
            }
            text.append(c);
            return true;
        }

        int define() {
            String read = text.toString();
            text.setLength(0);
            int fault = fault(read);
            if (fault >= 0) {
                return fault;
            }
            Node tree = new Parser(read).node();
            if (!sound(tree, new ArrayList<>())) {
                return -2;
            }
            protocol = tree;
            for (int role = 0; role < 4; role++) {
                parts[role] = part(tree, (char) ('A' + role));
            }
            running = false;
            return -1;
        }

        private static int fault(String read) {
            for (int k = 0; k < read.length(); k++) {
                if (!canBegin(read.substring(0, k + 1))) {
                    return k;
                }
            }
            return isProtocol(read) ? -1 : read.length();
        }

        private static boolean canBegin(String beginning) {
            for (String completion : COMPLETIONS) {
                StringBuilder whole = new StringBuilder(beginning).append(completion);
                long open = whole.chars().filter(c -> c == '{').count() - whole.chars().filter(c -> c == '}').count();
                for (long n = 0; n < open; n++) {
                    whole.append('}');
                }
                if (isProtocol(whole.toString())) {
                    return true;
                }
            }
            return false;
        }

        /** Puts e in place of each protocol inside until nothing changes. */
        private static boolean isProtocol(String whole) {
            String now = LEAF.matcher(whole).replaceAll("e");
            String before = "";
            while (!now.equals(before)) {
                before = now;
                now = INSIDE.matcher(now).replaceAll("e");
            }
            return now.equals("e");
        }

        /** Around it stand, from the outside, the loops as their variables and the messages as points. */
        private static boolean sound(Node node, List<Character> around) {
            if (node instanceof Return back) {
                int loop = around.lastIndexOf(back.variable());
                return loop >= 0 && around.lastIndexOf('.') > loop;
            }
            if (node instanceof Loop loop) {
                return !around.contains(loop.variable()) && sound(loop.body(), with(around, loop.variable()));
            }
            if (node instanceof Message message) {
                boolean sound = message.head().charAt(0) != message.head().charAt(1)
                        && message.labels().chars().distinct().count() == message.labels().length();
                for (Node branch : message.branches()) {
                    sound = sound && sound(branch, with(around, '.'));
                }
                return sound;
            }
            return true;
        }

        private static List<Character> with(List<Character> around, char c) {
            List<Character> more = new ArrayList<>(around);
            more.add(c);
            return more;
        }

        private static String part(Node node, char role) {
            if (node instanceof Return back) {
                return "" + back.variable();
            }
            if (node instanceof Loop loop) {
                String body = part(loop.body(), role);
                String variable = "" + loop.variable();
                if (body == null || !body.contains(variable)) {
                    return body;
                }
                return body.equals(variable) ? "e" : "m" + variable + "." + body;
            }
            if (node instanceof Message message) {
                return partInMessage(message, role);
            }
            return "e";
        }

        private static String partInMessage(Message message, char role) {
            List<String> texts = new ArrayList<>();
            for (Node branch : message.branches()) {
                texts.add(part(branch, role));
            }
            if (texts.contains(null)) {
                return null;
            }
            int me = message.head().indexOf(role);
            if (me < 0) {
                return texts.stream().distinct().count() == 1 ? texts.get(0) : null;
            }
            List<String> branches = new ArrayList<>();
            for (int n = 0; n < texts.size(); n++) {
                branches.add(message.labels().charAt(n) + "." + texts.get(n));
            }
            return message.head().charAt(1 - me) + (me == 0 ? "!" : "?") + "{" + String.join(",", branches) + "}";
        }

        int messages() {
            return protocol == null ? -1 : count(protocol);
        }

        private static int count(Node node) {
            if (node instanceof Loop loop) {
                return count(loop.body());
            }
            int count = 0;
            if (node instanceof Message message) {
                count = 1;
                for (Node branch : message.branches()) {
                    count += count(branch);
                }
            }
            return count;
        }

        private static boolean isRole(int role) {
            return role >= 0 && role <= 3;
        }

        int length(int role) {
            return !isRole(role) || parts[role] == null ? -1 : parts[role].length();
        }

        int charAt(int role, int k) {
            return k < 0 || k >= length(role) ? -1 : parts[role].charAt(k);
        }

        boolean begin() {
            if (protocol == null || List.of(0, 1, 2, 3).stream().anyMatch(role -> parts[role] == null)) {
                return false;
            }
            running = true;
            moves = 0;
            rows.clear();
            loops.clear();
            for (int role = 0; role < 4; role++) {
                loops.add(new HashMap<>());
                stand(role, new Parser(parts[role]).node());
            }
            return true;
        }

        private void stand(int role, Node node) {
            Node now = node;
            while (now instanceof Loop || now instanceof Return) {
                if (now instanceof Loop loop) {
                    loops.get(role).put(loop.variable(), loop);
                    now = loop.body();
                } else if (now instanceof Return back) {
                    now = loops.get(role).get(back.variable());
                }
            }
            standing[role] = now;
        }

        private Message messageOf(int role) {
            return running && isRole(role) && standing[role] instanceof Message message ? message : null;
        }

        int act(int role) {
            if (!running || !isRole(role)) {
                return -1;
            }
            Message message = messageOf(role);
            return message == null ? 0 : message.head().charAt(1) == '!' ? 1 : 2;
        }

        int partner(int role) {
            Message message = messageOf(role);
            return message == null ? -1 : "ABCD".indexOf(message.head().charAt(0));
        }

        private int branchOf(int role, int label) {
            Message message = messageOf(role);
            return message == null || label < 0 || label > 5 ? -1 : message.labels().indexOf("pqrstu".charAt(label));
        }

        boolean offers(int role, int label) {
            return branchOf(role, label) >= 0;
        }

        private Deque<Integer> row(int from, int to) {
            return rows.computeIfAbsent(from + ">" + to, key -> new ArrayDeque<>());
        }

        private void goOn(int role, int label) {
            stand(role, messageOf(role).branches().get(branchOf(role, label)));
            moves++;
        }

        boolean send(int role, int label) {
            if (act(role) != 1 || !offers(role, label) || row(role, partner(role)).size() == 3) {
                return false;
            }
            row(role, partner(role)).addLast(label);
            goOn(role, label);
            return true;
        }

        int receive(int role) {
            if (act(role) != 2 || row(partner(role), role).isEmpty()) {
                return -1;
            }
            int label = row(partner(role), role).peekFirst();
            if (!offers(role, label)) {
                return -2;
            }
            row(partner(role), role).removeFirst();
            goOn(role, label);
            return label;
        }

        int onTheWay(int from, int to) {
            return running && isRole(from) && isRole(to) ? row(from, to).size() : -1;
        }

        int labelAt(int from, int to, int k) {
            return k < 0 || k >= onTheWay(from, to) ? -1 : new ArrayList<>(row(from, to)).get(k);
        }

        int moves() {
            return running ? moves : -1;
        }

        int ready() {
            if (!running) {
                return -1;
            }
            int count = 0;
            for (int role = 0; role < 4; role++) {
                boolean sends = act(role) == 1 && onTheWay(role, partner(role)) < 3;
                boolean receives = act(role) == 2 && offers(role, labelAt(partner(role), role, 0));
                count += sends || receives ? 1 : 0;
            }
            return count;
        }

        boolean over() {
            return running && act(0) + act(1) + act(2) + act(3) == 0
                    && rows.values().stream().allMatch(Deque::isEmpty);
        }
    }

    /** Makes the tree of a protocol or a part, which is known to be one. */
    private static final class Parser {
        private final String text;
        private int place = 0;

        Parser(String text) {
            this.text = text;
        }

        Node node() {
            char c = text.charAt(place);
            if (c == 'e') {
                place++;
                return new End();
            }
            if ("XYZ".indexOf(c) >= 0) {
                place++;
                return new Return(c);
            }
            if (c == 'm') {
                char variable = text.charAt(place + 1);
                place += 3;
                return new Loop(variable, node());
            }
            String head = text.substring(place, place + 2);
            place += 2;
            StringBuilder labels = new StringBuilder();
            List<Node> branches = new ArrayList<>();
            while (text.charAt(place) != '}') {
                labels.append(text.charAt(place + 1));
                place += 3;
                branches.add(node());
            }
            place++;
            return new Message(head, labels.toString(), branches);
        }
    }
}
