import java.util.ArrayDeque;
import java.util.ArrayList;
import java.util.Deque;
import java.util.HashSet;
import java.util.List;
import java.util.Map;
import java.util.Set;
import java.util.TreeMap;

/**
 * The document told a second time, in another way, to compare answers with: the text is read by recursive descent,
 * programs are trees, threads keep a stack of places in them, and serial schedules run the trees whole, with a retry
 * or an abandonment as an exception, and meet every schedule again and again instead of remembering points.
 */
final class Model {
    // ---- programs as trees

    /** A token that stands alone (kind and number), or a block with one or two bodies. */
    private static final class Node {
        final char kind;
        final int number;
        final int at;
        List<Node> first;
        List<Node> second;
        int bar;
        int close;

        Node(char kind, int number, int at) {
            this.kind = kind;
            this.number = number;
            this.at = at;
        }
    }

    private static final class WrongAt extends Exception {
        private static final long serialVersionUID = 1;
        final int at;

        WrongAt(int at) {
            super("wrong", null, false, false);
            this.at = at;
        }
    }

    private static final class Parsed {
        final int[] values = new int[6];
        final List<Integer> runs = new ArrayList<>();
        final List<List<Node>> programs = new ArrayList<>();
    }

    private static final class Parser {
        final String text;
        int at = 0;
        int tokens;

        Parser(String text) {
            this.text = text;
        }

        char take(String allowed) throws WrongAt {
            if (at >= text.length() || allowed.indexOf(text.charAt(at)) < 0) {
                throw new WrongAt(at);
            }
            return text.charAt(at++);
        }

        boolean ahead(String signs) {
            return at < text.length() && signs.indexOf(text.charAt(at)) >= 0;
        }

        Parsed setup() throws WrongAt {
            Parsed parsed = new Parsed();
            take("M");
            for (int c = 0; c < 6; c++) {
                parsed.values[c] = take("0123456789") - '0';
            }
            do {
                take("t");
                parsed.runs.add(take("12") - '0');
                tokens = 0;
                parsed.programs.add(sequence(0));
                take(".");
            } while (at < text.length() && parsed.programs.size() < 3);
            if (at < text.length()) {
                throw new WrongAt(at);
            }
            return parsed;
        }

        List<Node> sequence(int depth) throws WrongAt {
            List<Node> nodes = new ArrayList<>();
            while (ahead("rw+-?!x") || (depth < 3 && ahead("({"))) {
                char kind = text.charAt(at++);
                int number = 0;
                int token = tokens++;
                if ("rw".indexOf(kind) >= 0) {
                    number = take("012345") - '0';
                } else if ("+-?".indexOf(kind) >= 0) {
                    number = take("0123456789") - '0';
                }
                Node node = new Node(kind, number, token);
                if (kind == '(') {
                    node.first = sequence(depth + 1);
                    take("|");
                    node.bar = tokens++;
                    node.second = sequence(depth + 1);
                    take(")");
                    node.close = tokens++;
                } else if (kind == '{') {
                    node.first = sequence(depth + 1);
                    take("}");
                    node.close = tokens++;
                }
                nodes.add(node);
            }
            return nodes;
        }
    }

    // ---- the state

    /** A place in a tree: a body, how far it is, and the block that it belongs to (null: the whole program). */
    private static final class Frame {
        final Node owner;
        final boolean isFirst;
        final List<Node> body;
        final int index;
        final int sum;
        final Map<Integer, Integer> writes;

        Frame(Node owner, boolean isFirst, List<Node> body, int index, int sum, Map<Integer, Integer> writes) {
            this.owner = owner;
            this.isFirst = isFirst;
            this.body = body;
            this.index = index;
            this.sum = sum;
            this.writes = writes;
        }

        Frame advanced() {
            return new Frame(owner, isFirst, body, index + 1, sum, writes);
        }
    }

    private static final class Thread {
        int state;
        int runs;
        int restarts;
        int sum;
        TreeMap<Integer, Integer> reads = new TreeMap<>();
        TreeMap<Integer, Integer> writes = new TreeMap<>();
        ArrayList<Frame> frames = new ArrayList<>();

        Thread copy() {
            Thread other = new Thread();
            other.state = state;
            other.runs = runs;
            other.restarts = restarts;
            other.sum = sum;
            other.reads = new TreeMap<>(reads);
            other.writes = new TreeMap<>(writes);
            other.frames = new ArrayList<>(frames);
            return other;
        }
    }

    private static final class State {
        int[] values = new int[6];
        int[] versions = new int[6];
        List<int[]> invariants = new ArrayList<>();
        List<Thread> threads = new ArrayList<>();

        State copy() {
            State other = new State();
            other.values = values.clone();
            other.versions = versions.clone();
            other.invariants = new ArrayList<>(invariants);
            for (Thread thread : threads) {
                other.threads.add(thread.copy());
            }
            return other;
        }
    }

    private String text = "";
    private List<List<Node>> programs = new ArrayList<>();
    private State now = new State();
    private final Deque<State> past = new ArrayDeque<>();
    private final State[] slots = new State[2];
    private final List<int[]> observed = new ArrayList<>();

    Model() {
        programs.add(new ArrayList<>());
        Thread thread = new Thread();
        thread.runs = 1;
        now.threads.add(thread);
        begin(thread, programs.get(0), 0);
    }

    private static void begin(Thread thread, List<Node> program, int state) {
        thread.state = state;
        thread.sum = 0;
        thread.reads.clear();
        thread.writes.clear();
        thread.frames.clear();
        thread.frames.add(new Frame(null, true, program, 0, 0, Map.of()));
    }

    // ---- setup text

    int append(int c) {
        if (c < 0 || c > 255) {
            return -2;
        }
        if (text.length() == 60) {
            return -4;
        }
        text += (char) c;
        return text.length();
    }

    int clearText() {
        int before = text.length();
        text = "";
        return before;
    }

    int errorPosition() {
        try {
            new Parser(text).setup();
            return -9;
        } catch (WrongAt wrong) {
            return wrong.at;
        }
    }

    int load() {
        Parsed parsed;
        try {
            parsed = new Parser(text).setup();
        } catch (WrongAt wrong) {
            return -3;
        }
        programs = parsed.programs;
        now = new State();
        now.values = parsed.values;
        for (int t = 0; t < programs.size(); t++) {
            Thread thread = new Thread();
            thread.runs = parsed.runs.get(t);
            begin(thread, programs.get(t), 0);
            now.threads.add(thread);
        }
        past.clear();
        slots[0] = null;
        slots[1] = null;
        return programs.size();
    }

    // ---- reading the state

    private static boolean cell(int c) {
        return 0 <= c && c <= 5;
    }

    private boolean thread(int t) {
        return 0 <= t && t < now.threads.size();
    }

    int value(int c) {
        return cell(c) ? 100 + now.values[c] : -1;
    }

    int version(int c) {
        return cell(c) ? now.versions[c] : -1;
    }

    int threadCount() {
        return now.threads.size();
    }

    int state(int t) {
        return thread(t) ? now.threads.get(t).state : -1;
    }

    int position(int t) {
        return thread(t) ? place(now.threads.get(t)) : -1;
    }

    private static int place(Thread thread) {
        Frame top = thread.frames.get(thread.frames.size() - 1);
        if (thread.state >= 2) {
            return 0;
        }
        if (top.index < top.body.size()) {
            return top.body.get(top.index).at;
        }
        if (top.owner == null) {
            return 0;
        }
        return top.owner.kind == '(' && top.isFirst ? top.owner.bar : top.owner.close;
    }

    int accumulator(int t) {
        return thread(t) ? 100 + now.threads.get(t).sum : -1;
    }

    int seenValue(int t, int c) {
        return thread(t) && cell(c) ? 100 + seen(now, now.threads.get(t).writes, c) : -1;
    }

    private static int seen(State state, Map<Integer, Integer> writes, int c) {
        Integer written = writes.get(c);
        return written == null ? state.values[c] : written;
    }

    private static int bits(Set<Integer> cells) {
        int bits = 0;
        for (int c : cells) {
            bits += 1 << c;
        }
        return bits;
    }

    int readSet(int t) {
        return thread(t) ? bits(now.threads.get(t).reads.keySet()) : -1;
    }

    int writeSet(int t) {
        return thread(t) ? bits(now.threads.get(t).writes.keySet()) : -1;
    }

    int openBlocks(int t) {
        return thread(t) ? now.threads.get(t).frames.size() - 1 : -1;
    }

    int runsLeft(int t) {
        return thread(t) ? now.threads.get(t).runs : -1;
    }

    int restarts(int t) {
        return thread(t) ? now.threads.get(t).restarts : -1;
    }

    // ---- actions

    private void remember() {
        past.addLast(now.copy());
        if (past.size() > 14) {
            past.removeFirst();
        }
    }

    int step(int t) {
        if (!thread(t)) {
            return -1;
        }
        if (now.threads.get(t).state != 0) {
            return -3;
        }
        remember();
        return token(now, t);
    }

    int run(int t) {
        if (!thread(t)) {
            return -1;
        }
        if (now.threads.get(t).state != 0) {
            return -3;
        }
        remember();
        for (int steps = 1; steps < 60; steps++) {
            int result = token(now, t);
            if (result != 0 && result != 2) {
                return steps;
            }
        }
        token(now, t);
        return 60;
    }

    private static int top(Thread thread) {
        return thread.frames.size() - 1;
    }

    private static int clamped(int v) {
        return v > 99 ? 99 : v < -99 ? -99 : v;
    }

    private int token(State state, int t) {
        Thread thread = state.threads.get(t);
        Frame frame = thread.frames.get(top(thread));
        if (frame.index < frame.body.size()) {
            Node node = frame.body.get(frame.index);
            if (node.kind == '!' || (node.kind == '?' && thread.sum < node.number)) {
                return afterRetry(state, t);
            }
            if (node.kind == 'x') {
                return afterAbandon(state, t);
            }
            thread.frames.set(top(thread), frame.advanced());
            if (node.kind == '(' || node.kind == '{') {
                thread.frames.add(new Frame(node, true, node.first, 0, thread.sum, new TreeMap<>(thread.writes)));
            } else {
                simple(state, thread, node);
            }
        } else if (frame.owner != null) {
            thread.frames.remove(top(thread));
        }
        return commitAtEnd(state, t);
    }

    private static void simple(State state, Thread thread, Node node) {
        if (node.kind == 'r') {
            thread.sum = seen(state, thread.writes, node.number);
            if (!thread.writes.containsKey(node.number)) {
                thread.reads.putIfAbsent(node.number, state.versions[node.number]);
            }
        } else if (node.kind == 'w') {
            thread.writes.put(node.number, thread.sum);
        } else if (node.kind == '+') {
            thread.sum = clamped(thread.sum + node.number);
        } else if (node.kind == '-') {
            thread.sum = clamped(thread.sum - node.number);
        }
    }

    private int commitAtEnd(State state, int t) {
        Thread thread = state.threads.get(t);
        Frame frame = thread.frames.get(top(thread));
        if (frame.owner != null || frame.index < frame.body.size()) {
            return 0;
        }
        if (!fresh(state, thread)) {
            return restart(state, t);
        }
        if (!allHold(state, thread.writes)) {
            begin(thread, programs.get(t), 3);
            return 4;
        }
        for (Map.Entry<Integer, Integer> write : new TreeMap<>(thread.writes).entrySet()) {
            put(state, write.getKey(), write.getValue());
        }
        thread.runs--;
        begin(thread, programs.get(t), thread.runs == 0 ? 2 : 0);
        return 1;
    }

    private int restart(State state, int t) {
        state.threads.get(t).restarts++;
        begin(state.threads.get(t), programs.get(t), 0);
        return 2;
    }

    private static boolean fresh(State state, Thread thread) {
        return thread.reads.entrySet().stream().allMatch(e -> state.versions[e.getKey()] == e.getValue());
    }

    private static boolean allHold(State state, Map<Integer, Integer> writes) {
        return state.invariants.stream().allMatch(i -> seen(state, writes, i[0]) + seen(state, writes, i[1]) >= i[2]);
    }

    private void put(State state, int c, int v) {
        state.values[c] = v;
        state.versions[c]++;
        for (int t = 0; t < state.threads.size(); t++) {
            if (state.threads.get(t).state == 1 && state.threads.get(t).reads.containsKey(c)) {
                restart(state, t);
            }
        }
    }

    private int afterRetry(State state, int t) {
        Thread thread = state.threads.get(t);
        for (int k = top(thread); k > 0; k--) {
            Frame frame = thread.frames.get(k);
            if (frame.owner.kind == '(' && frame.isFirst) {
                cut(thread, k);
                thread.frames.add(new Frame(frame.owner, false, frame.owner.second, 0, 0, Map.of()));
                return 0;
            }
        }
        if (!fresh(state, thread)) {
            return restart(state, t);
        }
        thread.state = 1;
        return 3;
    }

    /** Closes the block of frame k and all inside, and takes back what was written there. */
    private static void cut(Thread thread, int k) {
        thread.sum = thread.frames.get(k).sum;
        thread.writes = new TreeMap<>(thread.frames.get(k).writes);
        while (top(thread) >= k) {
            thread.frames.remove(top(thread));
        }
    }

    private int afterAbandon(State state, int t) {
        Thread thread = state.threads.get(t);
        for (int k = top(thread); k > 0; k--) {
            if (thread.frames.get(k).owner.kind == '{') {
                cut(thread, k);
                return commitAtEnd(state, t);
            }
        }
        begin(thread, programs.get(t), 3);
        return 4;
    }

    int setCell(int c, int v) {
        if (!cell(c)) {
            return -1;
        }
        if (v < -99 || v > 99) {
            return -2;
        }
        remember();
        put(now, c, v);
        return now.versions[c];
    }

    int addInvariant(int i, int j, int v) {
        if (!cell(i) || !cell(j)) {
            return -1;
        }
        if (v < -99 || v > 99) {
            return -2;
        }
        if (now.invariants.size() == 4) {
            return -4;
        }
        remember();
        now.invariants.add(new int[] {i, j, v});
        return now.invariants.size();
    }

    int undo() {
        if (past.isEmpty()) {
            return -3;
        }
        now = past.removeLast();
        return past.size();
    }

    // ---- serial schedules

    private static final class Retry extends RuntimeException {
        private static final long serialVersionUID = 1;

        Retry() {
            super("retry", null, false, false);
        }
    }

    private static final class Abandon extends RuntimeException {
        private static final long serialVersionUID = 1;

        Abandon() {
            super("abandon", null, false, false);
        }
    }

    /** What a transaction that runs alone has in hand. */
    private static final class Alone {
        int sum;
        TreeMap<Integer, Integer> writes = new TreeMap<>();
    }

    private static void whole(List<Node> body, Alone alone, int[] values) {
        for (Node node : body) {
            int sum = alone.sum;
            TreeMap<Integer, Integer> writes = new TreeMap<>(alone.writes);
            switch (node.kind) {
                case 'r' -> alone.sum = alone.writes.getOrDefault(node.number, values[node.number]);
                case 'w' -> alone.writes.put(node.number, alone.sum);
                case '+' -> alone.sum = clamped(alone.sum + node.number);
                case '-' -> alone.sum = clamped(alone.sum - node.number);
                case '?' -> {
                    if (alone.sum < node.number) {
                        throw new Retry();
                    }
                }
                case '!' -> throw new Retry();
                case 'x' -> throw new Abandon();
                case '(' -> {
                    try {
                        whole(node.first, alone, values);
                    } catch (Retry retry) {
                        alone.sum = sum;
                        alone.writes = writes;
                        whole(node.second, alone, values);
                    }
                }
                default -> {
                    try {
                        whole(node.first, alone, values);
                    } catch (Abandon abandon) {
                        alone.sum = sum;
                        alone.writes = writes;
                    }
                }
            }
        }
    }

    private record Ending(List<Integer> values, Set<Integer> failed, Set<Integer> blocked) {
    }

    private Set<Ending> endings() {
        Set<Ending> endings = new HashSet<>();
        int[] runs = new int[now.threads.size()];
        Set<Integer> failed = new HashSet<>();
        for (int t = 0; t < runs.length; t++) {
            if (now.threads.get(t).state == 3) {
                failed.add(t);
            } else if (now.threads.get(t).state != 2) {
                runs[t] = now.threads.get(t).runs;
            }
        }
        schedules(now.values, runs, failed, Set.of(), endings);
        return endings;
    }

    private void schedules(int[] values, int[] runs, Set<Integer> failed, Set<Integer> blocked, Set<Ending> endings) {
        boolean ended = true;
        for (int t = 0; t < runs.length; t++) {
            if (runs[t] == 0 || failed.contains(t) || blocked.contains(t)) {
                continue;
            }
            ended = false;
            Alone alone = new Alone();
            State after = new State();
            after.values = values.clone();
            after.invariants = now.invariants;
            try {
                whole(programs.get(t), alone, values);
                if (!allHold(after, alone.writes)) {
                    throw new Abandon();
                }
                alone.writes.forEach((c, v) -> after.values[c] = v);
                int[] fewer = runs.clone();
                fewer[t]--;
                schedules(after.values, fewer, failed, alone.writes.isEmpty() ? blocked : Set.of(), endings);
            } catch (Retry retry) {
                schedules(values, runs, failed, with(blocked, t), endings);
            } catch (Abandon abandon) {
                schedules(values, runs, with(failed, t), blocked, endings);
            }
        }
        if (ended) {
            List<Integer> list = new ArrayList<>();
            for (int v : values) {
                list.add(v);
            }
            endings.add(new Ending(list, failed, blocked));
        }
    }

    private static Set<Integer> with(Set<Integer> set, int t) {
        Set<Integer> more = new HashSet<>(set);
        more.add(t);
        return more;
    }

    int outcomeCount() {
        return endings().size();
    }

    int possibleOutcomes() {
        return (int) endings().stream()
            .filter(e -> observed.stream().allMatch(o -> e.values().get(o[0]) == o[1])).count();
    }

    int canDeadlock() {
        return endings().stream().anyMatch(e -> !e.blocked().isEmpty()) ? 1 : 0;
    }

    int greatestOutcome(int c) {
        return cell(c) ? 100 + endings().stream().mapToInt(e -> e.values().get(c)).max().getAsInt() : -1;
    }

    // ---- scripts, observations, save slots

    int runScript(int n, long script) {
        if (n < 1 || n > 4 || script < 0 || Long.toString(script).length() > 3 * n) {
            return -2;
        }
        String digits = ("000000000000" + script).substring(12 + Long.toString(script).length() - 3 * n);
        State copy = now.copy();
        for (int k = 0; k < n; k++) {
            if (!command(copy, digits.charAt(3 * k) - '0', digits.charAt(3 * k + 1) - '0', digits.charAt(3 * k + 2) - '0')) {
                return k;
            }
        }
        return -9;
    }

    private boolean command(State copy, int d1, int d2, int d3) {
        if (d1 == 3 || d1 == 4) {
            return d2 < 6 && (d1 == 3 ? copy.values : copy.versions)[d2] == d3;
        }
        if (d1 == 0 || d1 > 5 || d2 >= copy.threads.size()) {
            return false;
        }
        if (d1 != 1) {
            return (d1 == 2 ? copy.threads.get(d2).state : copy.threads.get(d2).restarts) == d3;
        }
        for (int k = 0; k < d3; k++) {
            if (copy.threads.get(d2).state != 0) {
                return false;
            }
            token(copy, d2);
        }
        return d3 > 0;
    }

    int observe(int c, int v) {
        if (!cell(c)) {
            return -1;
        }
        if (v < -99 || v > 99) {
            return -2;
        }
        observed.add(new int[] {c, v});
        if (observed.size() > 4) {
            observed.remove(0);
        }
        return observed.size();
    }

    private int done() {
        return (int) now.threads.stream().filter(t -> t.state == 2).count();
    }

    int save(int slot) {
        if (slot != 0 && slot != 1) {
            return -1;
        }
        slots[slot] = now.copy();
        return done();
    }

    int restore(int slot) {
        if (slot != 0 && slot != 1) {
            return -1;
        }
        if (slots[slot] == null) {
            return -3;
        }
        now = slots[slot].copy();
        past.clear();
        return done();
    }
}
