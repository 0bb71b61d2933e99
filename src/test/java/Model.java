import java.util.ArrayDeque;
import java.util.ArrayList;
import java.util.Arrays;
import java.util.HashMap;
import java.util.HashSet;
import java.util.List;
import java.util.Map;
import java.util.NoSuchElementException;
import java.util.Set;
import java.util.TreeSet;

/**
 * The document once more, written for plainness alone: it keeps every letter that ever came, and
 * finds out all that it needs from these each time. ModelTest holds LockstepNet against it.
 */
final class Model {
    /** Copied from the document, so that a slip in the program's tables shows. */
    static final String[] BUILT_IN = {
        "(0 3 1) (8 2 0 3) (14 2 4) (15 4 1) (18 3) (0 0 2) (0 2) (8 2 0 2) (14 2 6) (15 4 5) (16 5)"
            + " (14 5 3) (0 0 1) (19 1) (0 2)",
        "(15 4 4) (16 2) (14 2 2) (17 2) (5 0 0 2) (15 4 1) (18 0)",
        "(15 4 2) (17 2) (2 1 1 2) (19 5) (0 6 1) (7 5 6 5) (14 5 8) (0 2 3) (8 3 1 2) (0 2 2)"
            + " (8 2 1 2) (9 2 2 0) (10 0 3 2) (0 1) (0 6) (15 4 1) (18 0)",
        "(19 5) (0 6 1) (7 5 6 5) (14 5 5) (0 1) (15 4 2) (17 2) (2 1 1 2) (1 0 1) (15 4 1) (18 0)",
        "(0 3) (0 5) (15 4 9) (17 2) (7 6 3 2) (14 6 1) (6 5 5 2) (7 6 2 3) (14 6 3) (3 2 3 2)"
            + " (12 2 2) (10 7 7 2) (19 2) (0 6 1) (7 2 6 2) (8 6 1 3) (9 2 2 6) (20 6) (0 4 1)"
            + " (2 6 6 4) (7 4 5 6) (9 2 2 4) (14 2 3) (0 4 1) (10 7 7 4) (13 1 7) (8 4 1 3)"
            + " (3 5 3 1) (14 4 1) (1 5 6) (15 4 1) (18 5)",
    };

    record Word(int op, int r, int a, int b) { }

    record Letter(int kind, int from, int to, int round, int value) { }

    int nodes = 0;
    final List<int[]> links = new ArrayList<>();
    final List<Word> words = new ArrayList<>();
    final Map<List<Integer>, Integer> inputs = new HashMap<>();
    final Map<List<Integer>, Integer> plainOnes = new HashMap<>();

    boolean running = false;
    int stop;
    int widest;
    int[] round;
    int[][] registers;
    List<Letter> underWay;
    Set<Letter> came;
    Set<Letter> sent;
    Set<List<Integer>> toldIn;
    List<int[]> switches;
    int[] depth;
    int[] clusterOf;
    int[] clusterDepth;
    int[] leaders;
    Map<Set<Integer>, Integer> chosen;

    static List<Word> parse(String text) {
        List<Word> parsed = new ArrayList<>();
        for (String part : text.substring(1, text.length() - 1).split("\\) \\(")) {
            String[] numbers = part.split(" ");
            int[] w = new int[4];
            for (int i = 0; i < numbers.length; i++) {
                w[i] = Integer.parseInt(numbers[i]);
            }
            parsed.add(new Word(w[0], w[1], w[2], w[3]));
        }
        return parsed;
    }

    // -------- the net and the program

    void net(int n) {
        illegalArgument(n < 1 || n > 24);
        illegalState(running);
        nodes = n;
        links.clear();
        inputs.clear();
        plainOnes.clear();
    }

    int link(int a, int b) {
        noSuchElement(a < 0 || a >= nodes || b < 0 || b >= nodes);
        illegalArgument(a == b);
        illegalState(running || neighbours(a).contains(b));
        unsupported(links.size() == 60);
        links.add(new int[] {a, b});
        return links.size() - 1;
    }

    int word(int i, int op, int r, int a, int b) {
        illegalArgument(i < 0 || i > words.size());
        illegalState(running);
        unsupported(i == 64);
        if (i < words.size()) {
            words.remove(i);
        }
        words.add(i, new Word(op, r, a, b));
        return words.size();
    }

    int builtin(int k) {
        illegalArgument(k < 0 || k > 4);
        illegalState(running);
        words.clear();
        words.addAll(parse(BUILT_IN[k]));
        return words.size();
    }

    void cutAt(int n) {
        illegalArgument(n < 0 || n > words.size());
        illegalState(running);
        while (words.size() > n) {
            words.remove(n);
        }
    }

    int check() {
        for (int i = 0; i < words.size(); i++) {
            if (isWrong(i)) {
                return i;
            }
        }
        return -1;
    }

    private boolean isWrong(int i) {
        Word w = words.get(i);
        long end = words.size() - 1;
        boolean within = false;
        for (int j = 0; j < i; j++) {
            if (words.get(j).op == 15 && (long) j + words.get(j).a >= i) {
                within = true;
                end = Math.min(end, (long) j + words.get(j).a);
            }
        }
        if (w.op < 0 || w.op > 21 || w.r < 0 || w.r > 7) {
            return true;
        }
        if (List.of(1, 2, 3, 4, 5, 6, 7, 8, 9, 10, 11, 12, 13).contains(w.op)
                && (w.a < 0 || w.a > 7)) {
            return true;
        }
        if (List.of(2, 3, 4, 5, 6, 7, 8, 9, 10, 11).contains(w.op) && (w.b < 0 || w.b > 7)) {
            return true;
        }
        if ((w.op == 14 || w.op == 15) && (w.a < 1 || (long) i + w.a > end)) {
            return true;
        }
        if (w.op == 14 && !within) {
            int next = i + w.a + 1;
            for (int j = i + 1; j < next; j++) {
                if (words.get(j).op == 15 && (long) j + words.get(j).a >= next) {
                    return true;
                }
            }
        }
        return w.op == 15 && within || w.op >= 16 && w.op <= 18 && !within;
    }

    void input(int node, int r, int v) {
        noSuchElement(node < 0 || node >= nodes);
        indexOutOfBounds(r < 0 || r > 7);
        illegalState(running);
        inputs.put(List.of(node, r), v);
    }

    List<Integer> neighbours(int node) {
        List<Integer> found = new ArrayList<>();
        for (int[] l : links) {
            if (l[0] == node) {
                found.add(l[1]);
            } else if (l[1] == node) {
                found.add(l[0]);
            }
        }
        return found;
    }

    // -------- rounds

    int[] inputsOf(int node) {
        int[] row = new int[8];
        for (int r = 0; r < 8; r++) {
            row[r] = inputs.getOrDefault(List.of(node, r), 0);
        }
        return row;
    }

    /** Does a round on a row of registers; in and out go by ports. */
    Map<Integer, Integer> perform(int node, int number, int[] reg, Map<Integer, Integer> in) {
        Map<Integer, Integer> out = new HashMap<>();
        int ports = neighbours(node).size();
        for (int i = 0; i < words.size();) {
            Word w = words.get(i);
            if (w.op == 15) {
                for (int port = 0; port < ports; port++) {
                    reg[w.r] = port;
                    for (int j = i + 1; j <= i + w.a;) {
                        j = one(j, node, number, reg, port, in, out);
                    }
                }
                i = i + w.a + 1;
            } else {
                i = one(i, node, number, reg, -1, in, out);
            }
        }
        return out;
    }

    private int one(int i, int node, int number, int[] reg, int port, Map<Integer, Integer> in,
            Map<Integer, Integer> out) {
        Word w = words.get(i);
        int a = w.op >= 1 && w.op <= 13 ? reg[w.a] : w.a;
        int b = w.op >= 2 && w.op <= 11 ? reg[w.b] : w.b;
        switch (w.op) {
            case 0, 1 -> reg[w.r] = a;
            case 2 -> reg[w.r] = a + b;
            case 3 -> reg[w.r] = a - b;
            case 4 -> reg[w.r] = a * b;
            case 5 -> reg[w.r] = Math.min(a, b);
            case 6 -> reg[w.r] = Math.max(a, b);
            case 7 -> reg[w.r] = a < b ? 1 : 0;
            case 8 -> reg[w.r] = a == b ? 1 : 0;
            case 9 -> reg[w.r] = a & b;
            case 10 -> reg[w.r] = a | b;
            case 11 -> reg[w.r] = a ^ b;
            case 12 -> reg[w.r] = (int) (1L << (a & 31));
            case 13 -> {
                int bit = 0;
                while (bit < 32 && (a >>> bit & 1) == 1) {
                    bit++;
                }
                reg[w.r] = bit;
            }
            case 14 -> {
                return reg[w.r] == 0 ? i + 1 + w.a : i + 1;
            }
            case 16 -> reg[w.r] = in.containsKey(port) ? 1 : 0;
            case 17 -> reg[w.r] = in.getOrDefault(port, 0);
            case 18 -> out.put(port, reg[w.r]);
            case 19 -> reg[w.r] = number;
            case 20 -> reg[w.r] = node;
            case 21 -> reg[w.r] = neighbours(node).size();
            default -> throw new AssertionError("word " + i);
        }
        return i + 1;
    }

    void lockstep(int rounds) {
        illegalArgument(rounds < 0 || rounds > 300);
        illegalState(check() >= 0);
        int[][] reg = new int[nodes][];
        List<Map<Integer, Integer>> in = new ArrayList<>();
        for (int node = 0; node < nodes; node++) {
            reg[node] = inputsOf(node);
            in.add(new HashMap<>());
        }
        for (int k = 1; k <= rounds; k++) {
            List<Map<Integer, Integer>> next = new ArrayList<>();
            for (int node = 0; node < nodes; node++) {
                next.add(new HashMap<>());
            }
            for (int node = 0; node < nodes; node++) {
                for (var e : perform(node, k, reg[node], in.get(node)).entrySet()) {
                    int to = neighbours(node).get(e.getKey());
                    next.get(to).put(neighbours(to).indexOf(node), e.getValue());
                }
            }
            in = next;
        }
        for (int node = 0; node < nodes; node++) {
            for (int r = 0; r < 8; r++) {
                plainOnes.put(List.of(node, r), reg[node][r]);
            }
        }
    }

    int plain(int node, int r) {
        noSuchElement(node < 0 || node >= nodes);
        indexOutOfBounds(r < 0 || r > 7);
        return plainOnes.getOrDefault(List.of(node, r), 0);
    }

    // -------- a run

    int prepare(int way, int p) {
        illegalArgument(way < 0 || way > 2 || p < 2 || p > 8);
        illegalState(running || check() >= 0 || nodes == 0);
        int[] distance = distances();
        for (int d : distance) {
            illegalState(d < 0);
        }
        depth = distance;
        makeClusters(p);
        running = true;
        stop = 0;
        widest = 0;
        round = new int[nodes];
        registers = new int[nodes][];
        for (int node = 0; node < nodes; node++) {
            registers[node] = inputsOf(node);
        }
        underWay = new ArrayList<>();
        came = new HashSet<>();
        sent = new HashSet<>();
        toldIn = new HashSet<>();
        switches = new ArrayList<>();
        switches.add(new int[] {0, way});
        return leaders.length;
    }

    private int[] distances() {
        int[] found = new int[nodes];
        Arrays.fill(found, -1);
        found[0] = 0;
        ArrayDeque<Integer> queue = new ArrayDeque<>(List.of(0));
        while (!queue.isEmpty()) {
            int node = queue.remove();
            for (int other : neighbours(node)) {
                if (found[other] < 0) {
                    found[other] = found[node] + 1;
                    queue.add(other);
                }
            }
        }
        return found;
    }

    private void makeClusters(int p) {
        clusterOf = new int[nodes];
        clusterDepth = new int[nodes];
        Arrays.fill(clusterOf, -1);
        List<Integer> made = new ArrayList<>();
        for (int leader = 0; leader < nodes; leader++) {
            if (clusterOf[leader] >= 0) {
                continue;
            }
            Set<Integer> ball = new TreeSet<>(Set.of(leader));
            clusterOf[leader] = made.size();
            for (int d = 1;; d++) {
                Set<Integer> layer = new TreeSet<>();
                for (int node = 0; node < nodes; node++) {
                    for (int other : neighbours(node)) {
                        if (clusterOf[node] < 0 && ball.contains(other)) {
                            layer.add(node);
                        }
                    }
                }
                if (layer.isEmpty() || layer.size() < (p - 1) * ball.size()) {
                    break;
                }
                for (int node : layer) {
                    clusterOf[node] = made.size();
                    clusterDepth[node] = d;
                }
                ball.addAll(layer);
            }
            made.add(leader);
        }
        leaders = made.stream().mapToInt(x -> x).toArray();
        chosen = new HashMap<>();
        for (int i = links.size() - 1; i >= 0; i--) {
            int c = clusterOf[links.get(i)[0]];
            int d = clusterOf[links.get(i)[1]];
            if (c != d) {
                chosen.put(Set.of(c, d), i);
            }
        }
    }

    private int parent(int node, boolean inCluster) {
        int[] by = inCluster ? clusterDepth : depth;
        for (int other : new TreeSet<>(neighbours(node))) {
            if (by[other] == by[node] - 1 && (!inCluster || clusterOf[other] == clusterOf[node])) {
                return other;
            }
        }
        return -1;
    }

    private List<Integer> children(int node, boolean inCluster) {
        List<Integer> found = new ArrayList<>();
        for (int other = 0; other < nodes; other++) {
            if (parent(other, inCluster) == node) {
                found.add(other);
            }
        }
        return found;
    }

    private List<Integer> chosenNeighbours(int node) {
        List<Integer> found = new ArrayList<>();
        for (int i = 0; i < links.size(); i++) {
            int[] l = links.get(i);
            if (chosen.containsValue(i) && (l[0] == node || l[1] == node)) {
                found.add(l[0] == node ? l[1] : l[0]);
            }
        }
        return found;
    }

    private void send(int kind, int from, int to, int value) {
        Letter letter = new Letter(kind, from, to, round[from], value);
        underWay.add(letter);
        sent.add(letter);
    }

    private boolean cameFrom(int kind, List<Integer> senders, int to) {
        for (int from : senders) {
            if (!came.contains(new Letter(kind, from, to, round[to], 0))) {
                return false;
            }
        }
        return true;
    }

    private boolean cameAny(int kind, int to) {
        for (Letter l : came) {
            if (l.kind == kind && l.to == to && l.round == round[to]) {
                return true;
            }
        }
        return false;
    }

    private boolean hasSent(int kind, int from) {
        for (Letter l : sent) {
            if (l.kind == kind && l.from == from && l.round == round[from]) {
                return true;
            }
        }
        return false;
    }

    private boolean safe(int node) {
        for (Letter l : sent) {
            if (l.kind == 0 && l.from == node && l.round == round[node]
                    && !came.contains(new Letter(1, l.to, node, l.round, 0))) {
                return false;
            }
        }
        return true;
    }

    private int wayOf(int k) {
        int way = -1;
        for (int[] s : switches) {
            if (s[0] <= k) {
                way = s[1];
            }
        }
        return way;
    }

    private void doWhatItCan(int node) {
        boolean more = true;
        while (more) {
            int way = wayOf(round[node]);
            more = way == 0 ? byNodes(node) : way == 1 ? byTree(node) : byClusters(node);
        }
    }

    private boolean byNodes(int node) {
        List<Integer> around = neighbours(node);
        boolean may = safe(node) && round[node] < stop;
        if (may && !around.isEmpty() && !hasSent(2, node)) {
            for (int other : around) {
                send(2, node, other, 0);
            }
            return true;
        }
        if (may && cameFrom(2, around, node)) {
            nextRound(node);
            return true;
        }
        return false;
    }

    private boolean byTree(int node) {
        List<Integer> children = children(node, false);
        if (safe(node) && round[node] < stop && cameFrom(3, children, node)) {
            if (node == 0) {
                go(node, children);
                return true;
            }
            if (!hasSent(3, node)) {
                send(3, node, parent(node, false), 0);
                return true;
            }
        }
        if (cameAny(4, node)) {
            go(node, children);
            return true;
        }
        return false;
    }

    private boolean byClusters(int node) {
        List<Integer> children = children(node, true);
        boolean leader = leaders[clusterOf[node]] == node;
        List<Integer> now = List.of(node, round[node]);
        boolean ready = safe(node) && round[node] < stop && cameFrom(3, children, node);
        if (ready && !leader && !hasSent(3, node)) {
            send(3, node, parent(node, true), 0);
            return true;
        }
        if ((leader ? ready : cameAny(5, node)) && toldIn.add(now)) {
            for (int child : children) {
                send(5, node, child, 0);
            }
            for (int other : chosenNeighbours(node)) {
                send(6, node, other, 0);
            }
            return true;
        }
        if (toldIn.contains(now) && cameFrom(6, chosenNeighbours(node), node)
                && cameFrom(7, children, node)) {
            if (leader) {
                go(node, children);
                return true;
            }
            if (!hasSent(7, node)) {
                send(7, node, parent(node, true), 0);
                return true;
            }
        }
        if (cameAny(4, node)) {
            go(node, children);
            return true;
        }
        return false;
    }

    private void go(int node, List<Integer> children) {
        for (int child : children) {
            send(4, node, child, 0);
        }
        nextRound(node);
    }

    private void nextRound(int node) {
        Map<Integer, Integer> in = new HashMap<>();
        for (Letter l : came) {
            if (l.kind == 0 && l.to == node && l.round == round[node]) {
                in.put(neighbours(node).indexOf(l.from), l.value);
            }
        }
        round[node]++;
        Map<Integer, Integer> out = perform(node, round[node], registers[node], in);
        for (int port : new TreeSet<>(out.keySet())) {
            send(0, node, neighbours(node).get(port), out.get(port));
        }
        int least = Arrays.stream(round).min().getAsInt();
        int most = Arrays.stream(round).max().getAsInt();
        widest = Math.max(widest, most - least);
    }

    void release() {
        illegalState(!running);
        running = false;
    }

    void stopAt(int k) {
        illegalState(!running);
        illegalArgument(k > 500 || k < stop);
        stop = k;
        for (int node = 0; node < nodes; node++) {
            doWhatItCan(node);
        }
    }

    int letters() {
        return running ? underWay.size() : 0;
    }

    int letter(int i, int what) {
        indexOutOfBounds(!running || i < 0 || i >= underWay.size() || what < 0 || what > 4);
        Letter l = underWay.get(i);
        return new int[] {l.kind, l.from, l.to, l.round, l.value}[what];
    }

    int deliver(int i) {
        indexOutOfBounds(!running || i < 0 || i >= underWay.size());
        Letter l = underWay.remove(i);
        came.add(l);
        if (l.kind == 0) {
            Letter receipt = new Letter(1, l.to, l.from, l.round, 0);
            underWay.add(receipt);
            sent.add(receipt);
        }
        doWhatItCan(l.to);
        return l.kind;
    }

    int deliverAll(int rule, int seed, int most) {
        illegalArgument(rule < 0 || rule > 2 || most < 0 || most > 2000);
        illegalState(!running);
        int done = 0;
        int x = seed;
        for (; done < most && !underWay.isEmpty(); done++) {
            if (rule == 0) {
                deliver(0);
            } else if (rule == 1) {
                deliver(underWay.size() - 1);
            } else {
                x = x * 1103515245 + 12345;
                deliver((x >>> 16) % underWay.size());
            }
        }
        return done;
    }

    int switchTo(int way) {
        illegalArgument(way < 0 || way > 2);
        illegalState(!running);
        unsupported(switches.size() == 9);
        int border = Arrays.stream(round).max().getAsInt() + 1;
        switches.add(new int[] {border, way});
        return border;
    }

    int roundOf(int node) {
        noSuchElement(node < 0 || node >= nodes);
        illegalState(!running);
        return round[node];
    }

    int value(int node, int r) {
        noSuchElement(node < 0 || node >= nodes);
        indexOutOfBounds(r < 0 || r > 7);
        illegalState(!running);
        return registers[node][r];
    }

    int place(int node, int what) {
        noSuchElement(node < 0 || node >= nodes);
        indexOutOfBounds(what < 0 || what > 5);
        illegalState(!running);
        return new int[] {parent(node, false), depth[node], clusterOf[node], parent(node, true),
            clusterDepth[node], chosenNeighbours(node).size()}[what];
    }

    int chosen(int c, int d) {
        indexOutOfBounds(!running || c < 0 || c >= leaders.length || d < 0 || d >= leaders.length);
        return c == d ? -1 : chosen.getOrDefault(Set.of(c, d), -1);
    }

    int count(int what) {
        indexOutOfBounds(!running || what < 0 || what > 6);
        int[] byKind = new int[3];
        for (Letter l : sent) {
            byKind[Math.min(l.kind, 2)]++;
        }
        return new int[] {byKind[0], byKind[1], byKind[2], widest, 2 * links.size(), 2 * (nodes - 1),
            4 * (nodes - leaders.length) + 2 * chosen.size()}[what];
    }

    private static void illegalArgument(boolean so) {
        if (so) {
            throw new IllegalArgumentException();
        }
    }

    private static void illegalState(boolean so) {
        if (so) {
            throw new IllegalStateException();
        }
    }

    private static void noSuchElement(boolean so) {
        if (so) {
            throw new NoSuchElementException();
        }
    }

    private static void indexOutOfBounds(boolean so) {
        if (so) {
            throw new IndexOutOfBoundsException();
        }
    }

    private static void unsupported(boolean so) {
        if (so) {
            throw new UnsupportedOperationException();
        }
    }
}
