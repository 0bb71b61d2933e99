import java.util.Arrays;
import java.util.NoSuchElementException;

/**
 * Nodes of a net without a clock run a program by rounds: its letters come late and in any order,
 * and one of three ways of waiting for each other sees to it that each round uses just the letters
 * of the round before, as if all went in lockstep; the way may be changed on the run.
 */
public final class LockstepNet {
    private static final int MOST_NODES = 24;
    private static final int MOST_LINKS = 60;
    private static final int MOST_ROUNDS_PLAIN = 300;
    private static final int MOST_ROUNDS = 500;
    private static final int MOST_DELIVERED = 2000;
    private static final int REGISTERS = 8;

    private static final int WAY_NODES = 0;
    private static final int WAY_TREE = 1;
    private static final int WAY_CLUSTERS = 2;

    private static final int PROGRAMS_LETTER = 0;
    private static final int RECEIPT = 1;
    private static final int SAFE = 2;
    private static final int READY = 3;
    private static final int GO = 4;
    private static final int CLUSTER = 5;
    private static final int NEIGHBOUR = 6;
    private static final int ALL = 7;
    private static final int KINDS = 8;

    private final Program program = new Program();
    private final Net net = new Net();
    private final int[] inputs = new int[MOST_NODES * REGISTERS];
    private final Machine plainMachine = new Machine(program, net);
    private final Run run = new Run(program, net);
    private boolean prepared = false;

    public LockstepNet() {
    }

    public void net(int n) throws IllegalArgumentException, IllegalStateException {
        if (n < 1 || n > MOST_NODES) {
            throw new IllegalArgumentException("a net has 1 to 24 nodes");
        }
        refuseWithRun();
        net.empty(n);
        Arrays.fill(inputs, 0);
        plainMachine.begin(inputs);
    }

    public int link(int a, int b) throws NoSuchElementException, IllegalArgumentException,
            IllegalStateException, UnsupportedOperationException {
        needNode(a);
        needNode(b);
        if (a == b) {
            throw new IllegalArgumentException("a link has two different nodes");
        }
        refuseWithRun();
        if (net.areLinked(a, b)) {
            throw new IllegalStateException("these nodes have a link");
        }
        if (net.links == MOST_LINKS) {
            throw new UnsupportedOperationException("there are 60 links");
        }
        return net.join(a, b);
    }

    public int word(int i, int op, int r, int a, int b) throws IllegalArgumentException,
            IllegalStateException, UnsupportedOperationException {
        if (i < 0 || i > program.size) {
            throw new IllegalArgumentException("no place for such a word");
        }
        refuseWithRun();
        if (i == Program.MOST_WORDS) {
            throw new UnsupportedOperationException("there are 64 words");
        }
        program.put(i, op, r, a, b);
        return program.size;
    }

    public int builtin(int k) throws IllegalArgumentException, IllegalStateException {
        if (k < 0 || k >= Program.BUILT_INS) {
            throw new IllegalArgumentException("no such built-in program");
        }
        refuseWithRun();
        program.load(k);
        return program.size;
    }

    public void cutAt(int n) throws IllegalArgumentException, IllegalStateException {
        if (n < 0 || n > program.size) {
            throw new IllegalArgumentException("the program has not so many words");
        }
        refuseWithRun();
        program.size = n;
    }

    public int check() {
        return program.firstWrong();
    }

    public void input(int node, int r, int v) throws NoSuchElementException,
            IndexOutOfBoundsException, IllegalStateException {
        needNode(node);
        needRegister(r);
        refuseWithRun();
        inputs[node * REGISTERS + r] = v;
    }

    public void lockstep(int rounds) throws IllegalArgumentException, IllegalStateException {
        if (rounds < 0 || rounds > MOST_ROUNDS_PLAIN) {
            throw new IllegalArgumentException("a plain run has 0 to 300 rounds");
        }
        refuseWrongWord();
        plainMachine.begin(inputs);
        for (int round = 1; round <= rounds; round++) {
            for (int node = 0; node < net.size; node++) {
                plainMachine.doRound(node, round);
                plainMachine.passOn(node, round);
            }
        }
    }

    public int plain(int node, int r) throws NoSuchElementException, IndexOutOfBoundsException {
        needNode(node);
        needRegister(r);
        return plainMachine.registers[node * REGISTERS + r];
    }

    public int prepare(int way, int p) throws IllegalArgumentException, IllegalStateException {
        if (!isWay(way) || p < 2 || p > 8) {
            throw new IllegalArgumentException("a way is 0 to 2, and p is 2 to 8");
        }
        refuseWithRun();
        refuseWrongWord();
        if (!net.isConnected()) {
            throw new IllegalStateException("not all nodes are reached from node 0");
        }
        run.begin(inputs, way, p);
        prepared = true;
        return run.clusters.size;
    }

    public void release() throws IllegalStateException {
        needRun();
        prepared = false;
    }

    public void stopAt(int round) throws IllegalStateException, IllegalArgumentException {
        needRun();
        if (round > MOST_ROUNDS || round < run.stop) {
            throw new IllegalArgumentException("STOP goes up, to 500 at most");
        }
        run.stop = round;
        for (int node = 0; node < net.size; node++) {
            run.carryOn(node);
        }
    }

    public int letters() {
        return prepared ? run.post.size : 0;
    }

    public int letter(int i, int what) throws IndexOutOfBoundsException {
        needLetter(i);
        if (what < 0 || what >= Post.PARTS) {
            throw new IndexOutOfBoundsException("a letter has no such part");
        }
        return run.post.parts[what][i];
    }

    public int deliver(int i) throws IndexOutOfBoundsException {
        needLetter(i);
        return run.handOver(i);
    }

    public int deliverAll(int rule, int seed, int most) throws IllegalArgumentException,
            IllegalStateException {
        if (rule < 0 || rule > 2 || most < 0 || most > MOST_DELIVERED) {
            throw new IllegalArgumentException("a rule is 0 to 2, and most is 0 to 2000");
        }
        needRun();
        int drawn = seed;
        int delivered = 0;
        while (delivered < most && run.post.size > 0) {
            int i = 0;
            if (rule == 1) {
                i = run.post.size - 1;
            } else if (rule == 2) {
                drawn = drawn * 1103515245 + 12345;
                i = (drawn >>> 16) % run.post.size;
            }
            run.handOver(i);
            delivered++;
        }
        return delivered;
    }

    public int switchTo(int way) throws IllegalArgumentException, IllegalStateException,
            UnsupportedOperationException {
        if (!isWay(way)) {
            throw new IllegalArgumentException("a way is 0 to 2");
        }
        needRun();
        if (run.stretches > Run.MOST_SWITCHES) {
            throw new UnsupportedOperationException("the way was changed 8 times");
        }
        return run.changeWay(way);
    }

    public int roundOf(int node) throws NoSuchElementException, IllegalStateException {
        needNode(node);
        needRun();
        return run.rounds[node];
    }

    public int value(int node, int r) throws NoSuchElementException, IndexOutOfBoundsException,
            IllegalStateException {
        needNode(node);
        needRegister(r);
        needRun();
        return run.machine.registers[node * REGISTERS + r];
    }

    public int place(int node, int what) throws NoSuchElementException, IndexOutOfBoundsException,
            IllegalStateException {
        needNode(node);
        if (what < 0 || what > 5) {
            throw new IndexOutOfBoundsException("a place has no such part");
        }
        needRun();
        switch (what) {
            case 0:
                return run.tree.parent[node];
            case 1:
                return run.tree.depth[node];
            case 2:
                return run.clusters.clusterOf[node];
            case 3:
                return run.clusters.trees.parent[node];
            case 4:
                return run.clusters.trees.depth[node];
            default:
                return Integer.bitCount(run.clusters.chosenNeighbours[node]);
        }
    }

    public int chosen(int c, int d) throws IndexOutOfBoundsException {
        needCluster(c);
        needCluster(d);
        return run.clusters.chosenLink[c * MOST_NODES + d];
    }

    public int count(int what) throws IndexOutOfBoundsException {
        if (!prepared || what < 0 || what > 6) {
            throw new IndexOutOfBoundsException("no such count");
        }
        switch (what) {
            case 0:
            case 1:
            case 2:
                return run.post.sent[what];
            case 3:
                return run.widest;
            case 4:
                return 2 * net.links;
            case 5:
                return 2 * (net.size - 1);
            default:
                return 4 * (net.size - run.clusters.size) + 2 * run.clusters.chosenLinks;
        }
    }

    private static boolean isWay(int way) {
        return way >= WAY_NODES && way <= WAY_CLUSTERS;
    }

    private void needNode(int node) throws NoSuchElementException {
        if (node < 0 || node >= net.size) {
            throw new NoSuchElementException("there is no such node");
        }
    }

    private static void needRegister(int r) throws IndexOutOfBoundsException {
        if (r < 0 || r >= REGISTERS) {
            throw new IndexOutOfBoundsException("there is no such register");
        }
    }

    private void needLetter(int i) throws IndexOutOfBoundsException {
        if (!prepared || i < 0 || i >= run.post.size) {
            throw new IndexOutOfBoundsException("there is no such letter under way");
        }
    }

    private void needCluster(int c) throws IndexOutOfBoundsException {
        if (!prepared || c < 0 || c >= run.clusters.size) {
            throw new IndexOutOfBoundsException("there is no such cluster");
        }
    }

    private void needRun() throws IllegalStateException {
        if (!prepared) {
            throw new IllegalStateException("no run is prepared");
        }
    }

    private void refuseWithRun() throws IllegalStateException {
        if (prepared) {
            throw new IllegalStateException("a run is prepared");
        }
    }

    private void refuseWrongWord() throws IllegalStateException {
        if (program.firstWrong() >= 0) {
            throw new IllegalStateException("a word of the program is wrong");
        }
    }

    private static int lowestNode(int nodes) {
        return Integer.bitCount((nodes & -nodes) - 1);
    }

    /** The words that all nodes do, right or wrong. */
    private static final class Program {
        private static final int MOST_WORDS = 64;
        private static final int BUILT_INS = 5;

        private static final int SET = 0;
        private static final int COPY = 1;
        private static final int ADD = 2;
        private static final int SUB = 3;
        private static final int MUL = 4;
        private static final int MIN = 5;
        private static final int MAX = 6;
        private static final int LESS = 7;
        private static final int SAME = 8;
        private static final int AND = 9;
        private static final int OR = 10;
        private static final int XOR = 11;
        private static final int BIT = 12;
        private static final int FREE = 13;
        private static final int SKIP = 14;
        private static final int EACH = 15;
        private static final int GOT = 16;
        private static final int TAKE = 17;
        private static final int SEND = 18;
        private static final int ROUND = 19;
        private static final int SELF = 20;
        private static final int PORTS = 21;

        private static final int[] LAYERS = {
            0, 3, 1, 0,  8, 2, 0, 3,  14, 2, 4, 0,  15, 4, 1, 0,  18, 3, 0, 0,  0, 0, 2, 0,
            0, 2, 0, 0,  8, 2, 0, 2,  14, 2, 6, 0,  15, 4, 5, 0,  16, 5, 0, 0,  14, 5, 3, 0,
            0, 0, 1, 0,  19, 1, 0, 0,  0, 2, 0, 0,
        };
        private static final int[] LEAST = {
            15, 4, 4, 0,  16, 2, 0, 0,  14, 2, 2, 0,  17, 2, 0, 0,  5, 0, 0, 2,  15, 4, 1, 0,
            18, 0, 0, 0,
        };
        private static final int[] CELLS = {
            15, 4, 2, 0,  17, 2, 0, 0,  2, 1, 1, 2,  19, 5, 0, 0,  0, 6, 1, 0,  7, 5, 6, 5,
            14, 5, 8, 0,  0, 2, 3, 0,  8, 3, 1, 2,  0, 2, 2, 0,  8, 2, 1, 2,  9, 2, 2, 0,
            10, 0, 3, 2,  0, 1, 0, 0,  0, 6, 0, 0,  15, 4, 1, 0,  18, 0, 0, 0,
        };
        private static final int[] WALKS = {
            19, 5, 0, 0,  0, 6, 1, 0,  7, 5, 6, 5,  14, 5, 5, 0,  0, 1, 0, 0,  15, 4, 2, 0,
            17, 2, 0, 0,  2, 1, 1, 2,  1, 0, 1, 0,  15, 4, 1, 0,  18, 0, 0, 0,
        };
        private static final int[] COLOURS = {
            0, 3, 0, 0,  0, 5, 0, 0,  15, 4, 9, 0,  17, 2, 0, 0,  7, 6, 3, 2,  14, 6, 1, 0,
            6, 5, 5, 2,  7, 6, 2, 3,  14, 6, 3, 0,  3, 2, 3, 2,  12, 2, 2, 0,  10, 7, 7, 2,
            19, 2, 0, 0,  0, 6, 1, 0,  7, 2, 6, 2,  8, 6, 1, 3,  9, 2, 2, 6,  20, 6, 0, 0,
            0, 4, 1, 0,  2, 6, 6, 4,  7, 4, 5, 6,  9, 2, 2, 4,  14, 2, 3, 0,  0, 4, 1, 0,
            10, 7, 7, 4,  13, 1, 7, 0,  8, 4, 1, 3,  3, 5, 3, 1,  14, 4, 1, 0,  1, 5, 6, 0,
            15, 4, 1, 0,  18, 5, 0, 0,
        };

        private final int[] op = new int[MOST_WORDS];
        private final int[] r = new int[MOST_WORDS];
        private final int[] a = new int[MOST_WORDS];
        private final int[] b = new int[MOST_WORDS];
        private int size = 0;

        void put(int i, int newOp, int newR, int newA, int newB) {
            op[i] = newOp;
            r[i] = newR;
            a[i] = newA;
            b[i] = newB;
            if (i == size) {
                size++;
            }
        }

        void load(int k) {
            int[] words = builtInWords(k);
            size = words.length / 4;
            for (int i = 0; i < size; i++) {
                op[i] = words[4 * i];
                r[i] = words[4 * i + 1];
                a[i] = words[4 * i + 2];
                b[i] = words[4 * i + 3];
            }
        }

        private static int[] builtInWords(int k) {
            switch (k) {
                case 0:
                    return LAYERS;
                case 1:
                    return LEAST;
                case 2:
                    return CELLS;
                case 3:
                    return WALKS;
                default:
                    return COLOURS;
            }
        }

        int firstWrong() {
            int behindEach = 0;
            for (int i = 0; i < size; i++) {
                boolean within = i < behindEach;
                if (hasWrongParts(i) || standsWrong(i, within)
                        || reachesTooFar(i, within ? behindEach : size)) {
                    return i;
                }
                if (op[i] == EACH) {
                    behindEach = i + 1 + a[i];
                }
            }
            return -1;
        }

        private boolean hasWrongParts(int i) {
            if (op[i] < SET || op[i] > PORTS || !isRegister(r[i])) {
                return true;
            }
            boolean usesBoth = op[i] >= ADD && op[i] <= XOR;
            boolean usesA = usesBoth || op[i] == COPY || op[i] == BIT || op[i] == FREE;
            return usesA && !isRegister(a[i]) || usesBoth && !isRegister(b[i]);
        }

        private static boolean isRegister(int number) {
            return number >= 0 && number < REGISTERS;
        }

        private boolean standsWrong(int i, boolean withinEach) {
            switch (op[i]) {
                case EACH:
                    return withinEach;
                case SKIP:
                    return !withinEach && skipsIntoEach(i);
                case GOT:
                case TAKE:
                case SEND:
                    return !withinEach;
                default:
                    return false;
            }
        }

        /** Differences are compared, not sums, since a may be any int. */
        private boolean reachesTooFar(int i, int end) {
            return (op[i] == SKIP || op[i] == EACH) && (a[i] < 1 || a[i] > end - 1 - i);
        }

        /** A wrong EACH has words too, and they may go on where the program has ended. */
        private boolean skipsIntoEach(int i) {
            if (reachesTooFar(i, size)) {
                return false;
            }
            int next = i + 1 + a[i];
            for (int j = i + 1; j < next; j++) {
                if (op[j] == EACH && a[j] >= next - j) {
                    return true;
                }
            }
            return false;
        }
    }

    /** Nodes and links; a set of nodes is an int with a bit for each. */
    private static final class Net {
        private int size = 0;
        private int links = 0;
        private final int[] oneEnd = new int[MOST_LINKS];
        private final int[] otherEnd = new int[MOST_LINKS];
        private final int[] ports = new int[MOST_NODES];
        private final int[] neighbours = new int[MOST_NODES];
        private final int[] behindPort = new int[MOST_NODES * MOST_NODES];
        private final int[] portTo = new int[MOST_NODES * MOST_NODES];

        void empty(int n) {
            size = n;
            links = 0;
            Arrays.fill(ports, 0);
            Arrays.fill(neighbours, 0);
        }

        boolean areLinked(int a, int b) {
            return (neighbours[a] >> b & 1) != 0;
        }

        int join(int a, int b) {
            oneEnd[links] = a;
            otherEnd[links] = b;
            addPort(a, b);
            addPort(b, a);
            links++;
            return links - 1;
        }

        private void addPort(int node, int neighbour) {
            behindPort[node * MOST_NODES + ports[node]] = neighbour;
            portTo[node * MOST_NODES + neighbour] = ports[node];
            neighbours[node] |= 1 << neighbour;
            ports[node]++;
        }

        int nextTo(int nodes) {
            int found = 0;
            for (int node = 0; node < size; node++) {
                if ((nodes >> node & 1) != 0) {
                    found |= neighbours[node];
                }
            }
            return found & ~nodes;
        }

        int allNodes() {
            return (1 << size) - 1;
        }

        boolean isConnected() {
            int reached = 1;
            for (int i = 1; i < size; i++) {
                reached |= nextTo(reached);
            }
            return size > 0 && reached == allNodes();
        }
    }

    /**
     * The nodes' registers, and the letters that came to them. Letters are kept by whether their
     * round is even or odd: a node may have those of its own round and those of the next one, from
     * neighbours that are ahead, but never those of a third.
     */
    private static final class Machine {
        private final Program program;
        private final Net net;
        private final int[] registers = new int[MOST_NODES * REGISTERS];
        private final int[] came = new int[2 * MOST_NODES];
        private final int[] cameValue = new int[2 * MOST_NODES * MOST_NODES];
        private final int[] goingValue = new int[MOST_NODES];
        private int going = 0;
        private int self = 0;
        private int round = 0;

        Machine(Program program, Net net) {
            this.program = program;
            this.net = net;
        }

        void begin(int[] inputs) {
            System.arraycopy(inputs, 0, registers, 0, registers.length);
            Arrays.fill(came, 0);
        }

        void accept(int node, int sender, int sentInRound, int letterValue) {
            int port = net.portTo[node * MOST_NODES + sender];
            int box = boxOf(node, sentInRound);
            came[box] |= 1 << port;
            cameValue[box * MOST_NODES + port] = letterValue;
        }

        /** For the plain run, where what is sent is there at once. */
        void passOn(int node, int sentInRound) {
            for (int port = 0; port < net.ports[node]; port++) {
                if (goesBy(port)) {
                    accept(net.behindPort[node * MOST_NODES + port], node, sentInRound,
                            goingValue[port]);
                }
            }
        }

        boolean goesBy(int port) {
            return (going >> port & 1) != 0;
        }

        void doRound(int node, int number) {
            self = node;
            round = number;
            going = 0;
            for (int at = 0; at < program.size; at++) {
                if (program.op[at] != Program.EACH) {
                    at += doWord(at, 0);
                    continue;
                }
                int last = at + program.a[at];
                for (int port = 0; port < net.ports[node]; port++) {
                    registers[node * REGISTERS + program.r[at]] = port;
                    for (int inner = at + 1; inner <= last; inner++) {
                        inner += doWord(inner, port);
                    }
                }
                at = last;
            }
            came[boxOf(node, number - 1)] = 0;
        }

        private static int boxOf(int node, int sentInRound) {
            return (sentInRound & 1) * MOST_NODES + node;
        }

        /** Answers how many of the next words are left out. */
        private int doWord(int at, int port) {
            int r = self * REGISTERS + program.r[at];
            switch (program.op[at]) {
                case Program.SKIP:
                    return registers[r] == 0 ? program.a[at] : 0;
                case Program.SEND:
                    going |= 1 << port;
                    goingValue[port] = registers[r];
                    return 0;
                case Program.SET:
                    registers[r] = program.a[at];
                    return 0;
                case Program.GOT:
                case Program.TAKE:
                    registers[r] = received(port, program.op[at] == Program.TAKE);
                    return 0;
                case Program.ROUND:
                    registers[r] = round;
                    return 0;
                case Program.SELF:
                    registers[r] = self;
                    return 0;
                case Program.PORTS:
                    registers[r] = net.ports[self];
                    return 0;
                default:
                    registers[r] = reckoned(at);
                    return 0;
            }
        }

        private int received(int port, boolean asValue) {
            int box = boxOf(self, round - 1);
            if ((came[box] >> port & 1) == 0) {
                return 0;
            }
            return asValue ? cameValue[box * MOST_NODES + port] : 1;
        }

        private int reckoned(int at) {
            int x = registers[self * REGISTERS + program.a[at]];
            switch (program.op[at]) {
                case Program.COPY:
                    return x;
                case Program.BIT:
                    return 1 << (x & 31);
                case Program.FREE:
                    return Integer.bitCount(x & ~(x + 1));
                default:
                    int y = registers[self * REGISTERS + program.b[at]];
                    return combined(program.op[at], x, y);
            }
        }

        private static int combined(int op, int x, int y) {
            switch (op) {
                case Program.ADD:
                    return x + y;
                case Program.SUB:
                    return x - y;
                case Program.MUL:
                    return x * y;
                case Program.MIN:
                    return x < y ? x : y;
                case Program.MAX:
                    return x > y ? x : y;
                case Program.LESS:
                    return x < y ? 1 : 0;
                case Program.SAME:
                    return x == y ? 1 : 0;
                case Program.AND:
                    return x & y;
                case Program.OR:
                    return x | y;
                default:
                    return x ^ y;
            }
        }
    }

    /** Parents, depths and children (as sets); more than one tree, if they share no node. */
    private static final class Tree {
        private final int[] parent = new int[MOST_NODES];
        private final int[] depth = new int[MOST_NODES];
        private final int[] children = new int[MOST_NODES];

        void plant(int root) {
            parent[root] = -1;
            depth[root] = 0;
            children[root] = 0;
        }

        void hang(int node, int under) {
            parent[node] = under;
            depth[node] = depth[under] + 1;
            children[node] = 0;
            children[under] |= 1 << node;
        }

        /**
         * Grows a tree of free nodes by layers, as long as a layer has at least so many times as
         * many nodes as there are; answers its nodes. With times 0 it takes all that it reaches.
         */
        int grow(Net net, int root, int free, int times) {
            plant(root);
            int ball = 1 << root;
            int outermost = ball;
            for (int i = 0; i < net.size; i++) {
                int layer = net.nextTo(ball) & free;
                if (layer == 0 || Integer.bitCount(layer) < times * Integer.bitCount(ball)) {
                    return ball;
                }
                for (int node = 0; node < net.size; node++) {
                    if ((layer >> node & 1) != 0) {
                        hang(node, lowestNode(net.neighbours[node] & outermost));
                    }
                }
                ball |= layer;
                outermost = layer;
            }
            return ball;
        }
    }

    /** The clusters of a net, their trees, and the chosen links between them. */
    private static final class Clusters {
        private int size = 0;
        private int chosenLinks = 0;
        private final Tree trees = new Tree();
        private final int[] clusterOf = new int[MOST_NODES];
        private final int[] chosenNeighbours = new int[MOST_NODES];
        private final int[] chosenLink = new int[MOST_NODES * MOST_NODES];

        void make(Net net, int p) {
            size = 0;
            int free = net.allNodes();
            for (int node = 0; node < net.size; node++) {
                if ((free >> node & 1) != 0) {
                    int ball = trees.grow(net, node, free, p - 1);
                    number(ball, net.size);
                    free &= ~ball;
                }
            }
            choose(net);
        }

        private void number(int ball, int nodes) {
            for (int node = 0; node < nodes; node++) {
                if ((ball >> node & 1) != 0) {
                    clusterOf[node] = size;
                }
            }
            size++;
        }

        private void choose(Net net) {
            chosenLinks = 0;
            Arrays.fill(chosenLink, -1);
            Arrays.fill(chosenNeighbours, 0);
            for (int link = 0; link < net.links; link++) {
                int a = net.oneEnd[link];
                int b = net.otherEnd[link];
                int there = clusterOf[a] * MOST_NODES + clusterOf[b];
                if (clusterOf[a] != clusterOf[b] && chosenLink[there] < 0) {
                    chosenLink[there] = link;
                    chosenLink[clusterOf[b] * MOST_NODES + clusterOf[a]] = link;
                    chosenNeighbours[a] |= 1 << b;
                    chosenNeighbours[b] |= 1 << a;
                    chosenLinks++;
                }
            }
        }
    }

    /** The letters under way, in the order in which they were sent. */
    private static final class Post {
        private static final int PARTS = 5;
        private static final int KIND = 0;
        private static final int FROM = 1;
        private static final int TO = 2;
        private static final int ROUND = 3;
        private static final int VALUE = 4;
        /**
         * Over a link, each way, there are at most one program's letter or its receipt, and one
         * other letter of each of two rounds: 360 in all.
         */
        private static final int MOST_LETTERS = 512;

        private final int[][] parts = new int[PARTS][MOST_LETTERS];
        private final int[] sent = new int[3];
        private int size = 0;

        void empty() {
            size = 0;
            Arrays.fill(sent, 0);
        }

        void send(int kind, int from, int to, int round, int letterValue) {
            if (size >= MOST_LETTERS) {
                return;
            }
            parts[KIND][size] = kind;
            parts[FROM][size] = from;
            parts[TO][size] = to;
            parts[ROUND][size] = round;
            parts[VALUE][size] = letterValue;
            size++;
            sent[kind < SAFE ? kind : 2]++;
        }

        void remove(int i) {
            size--;
            for (int part = 0; part < PARTS; part++) {
                System.arraycopy(parts[part], i + 1, parts[part], i, size - i);
            }
        }
    }

    /** A run: how far each node is, what it was told, and what it does on that. */
    private static final class Run {
        private static final int MOST_SWITCHES = 8;
        private static final int MOST_DEEDS = 1000000;

        private static final int NOTHING = 0;
        private static final int SEND_SAFE = 1;
        private static final int SEND_READY = 2;
        private static final int BE_TOLD = 3;
        private static final int SEND_ALL = 4;
        private static final int SEND_GO = 5;
        private static final int NEXT_ROUND = 6;

        private final Net net;
        private final Machine machine;
        private final Post post = new Post();
        private final Tree tree = new Tree();
        private final Clusters clusters = new Clusters();
        private final int[] rounds = new int[MOST_NODES];
        private final int[] unreceipted = new int[MOST_NODES];
        /** By kind, then as the machine's letters by even and odd rounds: a set of senders. */
        private final int[][] heard = new int[KINDS][2 * MOST_NODES];
        private int announced = 0;
        private int told = 0;
        private int reported = 0;
        private int stop = 0;
        private int widest = 0;
        /** Stretches of rounds, each with its first round and its way. */
        private final int[] border = new int[MOST_SWITCHES + 1];
        private final int[] wayFrom = new int[MOST_SWITCHES + 1];
        private int stretches = 0;

        Run(Program program, Net net) {
            this.net = net;
            this.machine = new Machine(program, net);
        }

        void begin(int[] inputs, int way, int p) {
            machine.begin(inputs);
            post.empty();
            tree.grow(net, 0, net.allNodes(), 0);
            clusters.make(net, p);
            Arrays.fill(rounds, 0);
            Arrays.fill(unreceipted, 0);
            for (int kind = 0; kind < KINDS; kind++) {
                Arrays.fill(heard[kind], 0);
            }
            announced = 0;
            told = 0;
            reported = 0;
            stop = 0;
            widest = 0;
            border[0] = 0;
            wayFrom[0] = way;
            stretches = 1;
        }

        int changeWay(int way) {
            border[stretches] = greatestRound() + 1;
            wayFrom[stretches] = way;
            stretches++;
            return border[stretches - 1];
        }

        private int greatestRound() {
            int greatest = 0;
            for (int node = 0; node < net.size; node++) {
                greatest = Math.max(greatest, rounds[node]);
            }
            return greatest;
        }

        /** Borders never go down, so the latest one that fits is the one that counts. */
        private int wayOutOf(int round) {
            for (int i = stretches - 1; i > 0; i--) {
                if (border[i] <= round) {
                    return wayFrom[i];
                }
            }
            return wayFrom[0];
        }

        int handOver(int i) {
            int kind = post.parts[Post.KIND][i];
            int from = post.parts[Post.FROM][i];
            int to = post.parts[Post.TO][i];
            int round = post.parts[Post.ROUND][i];
            int letterValue = post.parts[Post.VALUE][i];
            post.remove(i);
            if (kind == PROGRAMS_LETTER) {
                machine.accept(to, from, round, letterValue);
                post.send(RECEIPT, to, from, round, 0);
            } else if (kind == RECEIPT) {
                unreceipted[to]--;
            } else {
                heard[kind][boxOf(to, round)] |= 1 << from;
            }
            carryOn(to);
            return kind;
        }

        private static int boxOf(int node, int round) {
            return (round & 1) * MOST_NODES + node;
        }

        void carryOn(int node) {
            for (int i = 0; i < MOST_DEEDS; i++) {
                int way = wayOutOf(rounds[node]);
                int deed = nextDeed(node, way);
                if (deed == NOTHING) {
                    return;
                }
                sendFor(deed, node, way == WAY_CLUSTERS ? clusters.trees : tree);
                if (deed == SEND_GO || deed == NEXT_ROUND) {
                    enterNextRound(node);
                }
            }
        }

        private int nextDeed(int node, int way) {
            switch (way) {
                case WAY_NODES:
                    return nextByNodes(node);
                case WAY_TREE:
                    return nextByTree(node);
                default:
                    return nextByClusters(node);
            }
        }

        private int nextByNodes(int node) {
            if (mayAnnounce(node)) {
                return SEND_SAFE;
            }
            boolean allSafe = isIn(announced, node) && heardBy(node, SAFE) == net.neighbours[node];
            return allSafe ? NEXT_ROUND : NOTHING;
        }

        private int nextByTree(int node) {
            if (mayAnnounce(node) && heardBy(node, READY) == tree.children[node]) {
                return tree.parent[node] < 0 ? SEND_GO : SEND_READY;
            }
            return heardBy(node, GO) != 0 ? SEND_GO : NOTHING;
        }

        private int nextByClusters(int node) {
            int children = clusters.trees.children[node];
            boolean leads = clusters.trees.parent[node] < 0;
            if (mayAnnounce(node) && heardBy(node, READY) == children) {
                return leads ? BE_TOLD : SEND_READY;
            }
            if (!isIn(told, node)) {
                return heardBy(node, CLUSTER) != 0 ? BE_TOLD : NOTHING;
            }
            if (!isIn(reported, node) && heardBy(node, ALL) == children
                    && heardBy(node, NEIGHBOUR) == clusters.chosenNeighbours[node]) {
                return leads ? SEND_GO : SEND_ALL;
            }
            return heardBy(node, GO) != 0 ? SEND_GO : NOTHING;
        }

        private boolean mayAnnounce(int node) {
            return !isIn(announced, node) && unreceipted[node] == 0 && rounds[node] < stop;
        }

        private int heardBy(int node, int kind) {
            return heard[kind][boxOf(node, rounds[node])];
        }

        private static boolean isIn(int nodes, int node) {
            return (nodes >> node & 1) != 0;
        }

        private void sendFor(int deed, int node, Tree by) {
            switch (deed) {
                case SEND_SAFE:
                    announced |= 1 << node;
                    sendByPorts(SAFE, node, net.neighbours[node]);
                    break;
                case SEND_READY:
                    announced |= 1 << node;
                    post.send(READY, node, by.parent[node], rounds[node], 0);
                    break;
                case BE_TOLD:
                    announced |= 1 << node;
                    told |= 1 << node;
                    sendByNumbers(CLUSTER, node, by.children[node]);
                    sendByPorts(NEIGHBOUR, node, clusters.chosenNeighbours[node]);
                    break;
                case SEND_ALL:
                    reported |= 1 << node;
                    post.send(ALL, node, by.parent[node], rounds[node], 0);
                    break;
                case SEND_GO:
                    sendByNumbers(GO, node, by.children[node]);
                    break;
                default:
                    break;
            }
        }

        private void sendByPorts(int kind, int node, int receivers) {
            for (int port = 0; port < net.ports[node]; port++) {
                int receiver = net.behindPort[node * MOST_NODES + port];
                if (isIn(receivers, receiver)) {
                    post.send(kind, node, receiver, rounds[node], 0);
                }
            }
        }

        private void sendByNumbers(int kind, int node, int receivers) {
            for (int receiver = 0; receiver < net.size; receiver++) {
                if (isIn(receivers, receiver)) {
                    post.send(kind, node, receiver, rounds[node], 0);
                }
            }
        }

        private void enterNextRound(int node) {
            forgetRound(node);
            rounds[node]++;
            machine.doRound(node, rounds[node]);
            for (int port = 0; port < net.ports[node]; port++) {
                if (machine.goesBy(port)) {
                    post.send(PROGRAMS_LETTER, node, net.behindPort[node * MOST_NODES + port],
                            rounds[node], machine.goingValue[port]);
                }
            }
            unreceipted[node] = Integer.bitCount(machine.going);
            noteWidest(node);
        }

        /** The box of the round that is left becomes that of the one after the next. */
        private void forgetRound(int node) {
            int box = boxOf(node, rounds[node]);
            for (int kind = SAFE; kind < KINDS; kind++) {
                heard[kind][box] = 0;
            }
            announced &= ~(1 << node);
            told &= ~(1 << node);
            reported &= ~(1 << node);
        }

        private void noteWidest(int ahead) {
            for (int node = 0; node < net.size; node++) {
                widest = Math.max(widest, rounds[ahead] - rounds[node]);
            }
        }
    }
}
