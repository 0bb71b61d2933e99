import java.util.ArrayList;
import java.util.List;
import java.util.Random;

/** Runs of calls drawn by chance (always the same ones), on LockstepNet and on the model at once. */
public final class ModelTest {
    private static final String[] TAKING_NUMBERS = {
        "net 1", "link 2", "word 5", "builtin 1", "cutAt 1", "input 3", "lockstep 1", "plain 2",
        "prepare 2", "stopAt 1", "letter 2", "deliver 1", "deliverAll 3", "switchTo 1", "roundOf 1",
        "value 2", "place 2", "chosen 2", "count 1",
    };
    private static final int[] EDGES = {
        Integer.MIN_VALUE, Integer.MIN_VALUE + 1, -65536, -64, -1, 0, 0, 1, 1, 2, 2, 3, 5, 7, 8, 14, 15,
        18, 21, 22, 23, 24, 25, 31, 32, 60, 63, 64, 65, 255, 300, 301, 500, 501, 2000, 2001, 1 << 24,
        1 << 30, Integer.MAX_VALUE - 64, Integer.MAX_VALUE - 1, Integer.MAX_VALUE,
    };

    private final Random random;
    private final LockstepNet real = new LockstepNet();
    private final Model model = new Model();
    private final List<String> log = new ArrayList<>();
    private boolean same = true;

    private ModelTest(long seed) {
        random = new Random(seed);
    }

    public static void main(String[] args) {
        int runs = args.length > 0 ? Integer.parseInt(args[0]) : 1200;
        for (int seed = 0; seed < runs && Checks.wrongSoFar() == 0; seed++) {
            ModelTest run = new ModelTest(seed);
            switch (seed % 5) {
                case 0 -> run.anyCalls();
                case 1 -> run.wordsAlone();
                case 2 -> run.anyNumbers();
                default -> run.wholeRun();
            }
            if (!run.same) {
                System.out.println("seed " + seed + ":");
                run.log.forEach(System.out::println);
            }
        }
        Checks.end();
    }

    private void both(String name, int... v) {
        if (!same) {
            return;
        }
        String want = Checks.answer(() -> Calls.on(model, name, v));
        String got = Checks.answer(() -> Calls.on(real, name, v));
        log.add(name + java.util.Arrays.toString(v) + " " + got);
        Checks.due(name + java.util.Arrays.toString(v), want, got);
        same = want.equals(got);
    }

    private int from(int low, int high) {
        return low + random.nextInt(high - low + 1);
    }

    private int number() {
        int drawn = random.nextInt(10);
        return drawn < 6 ? from(-2, 40) : drawn < 8 ? random.nextInt()
                : drawn < 9 ? Integer.MAX_VALUE - from(0, 70) : Integer.MIN_VALUE;
    }

    private void anyWord(int i) {
        int op = from(0, 19) == 0 ? from(-1, 22) : from(0, 21);
        int count = from(0, 7) == 0 ? number() : from(1, 4);
        int a = op == 0 ? number() : op == 14 || op == 15 ? count : from(0, 7);
        int wild = from(0, 40);
        both("word", i, op, wild == 0 ? from(-1, 8) : from(0, 7), wild == 1 ? from(-1, 8) : a,
                wild == 2 ? from(-1, 8) : from(0, 7));
    }

    /** Words are taken back until the program is right, so that right ones are many. */
    private void anyRightProgram(int most) {
        both("cutAt", 0);
        for (int tries = 0; tries < 300 && model.words.size() < most; tries++) {
            int size = model.words.size();
            if (from(0, 2) == 0 && size + 6 < most) {
                anyEach(size);
            } else {
                anyWord(size);
            }
            if (model.check() >= 0) {
                both("check");
                both("cutAt", size);
            }
        }
        both("check");
    }

    private void anyEach(int at) {
        int inner = from(1, 5);
        both("word", at, 15, from(0, 7), inner, 0);
        for (int i = 1; i <= inner; i++) {
            int op = from(0, 2) == 0 ? from(0, 13) : from(16, 18);
            if (i < inner && from(0, 5) == 0) {
                both("word", at + i, 14, from(0, 7), from(1, inner - i), 0);
            } else {
                both("word", at + i, op, from(0, 7), op == 0 ? number() : from(0, 7), from(0, 7));
            }
        }
        both("check");
    }

    private void wordsAlone() {
        for (int i = 0; i < 40; i++) {
            if (from(0, 5) == 0) {
                both("cutAt", from(0, model.words.size()));
            }
            if (from(0, 15) == 0) {
                both("builtin", from(0, 4));
            }
            int at = from(0, 2) == 0 ? from(0, model.words.size()) : model.words.size();
            anyWord(at);
            both("check");
        }
        anyRightProgram(from(1, 64));
        both("net", from(1, 5));
        for (int i = 0; i < 6; i++) {
            both("link", from(0, 4), from(0, 4));
            both("input", from(0, 4), from(0, 7), number());
        }
        both("lockstep", from(0, 12));
        allPlain();
    }

    private void allPlain() {
        for (int node = 0; node < model.nodes; node++) {
            for (int r = 0; r < 8; r++) {
                both("plain", node, r);
            }
        }
    }

    private void anyCalls() {
        int nodes = from(1, 5);
        both("net", nodes);
        for (int i = 0; i < 300 && same; i++) {
            switch (random.nextInt(24)) {
                case 0 -> both("net", from(0, 2) == 0 ? from(-1, 26) : from(1, 4));
                case 1, 2, 3, 4 -> both("link", from(-1, 5), from(-1, 5));
                case 5 -> anyWord(from(-1, model.words.size() + 1));
                case 6, 7 -> both("builtin", from(-1, 5));
                case 8 -> both("cutAt", from(-1, model.words.size() + 1));
                case 9 -> both("input", from(-1, 4), from(-1, 8), number());
                case 10 -> both("lockstep", from(0, 3) == 0 ? from(-1, 301) : from(0, 6));
                case 11 -> both("plain", from(-1, 4), from(-1, 8));
                case 12, 13 -> both("prepare", from(-1, 3), from(1, 9));
                case 14 -> both("release");
                case 15 -> both("stopAt", from(0, 9) == 0 ? number() : from(0, 12));
                case 16 -> both("letter", from(-1, 9), from(-1, 5));
                case 17 -> both("deliver", from(-1, 9));
                case 18 -> both("deliverAll", from(-1, 3), number(), from(-1, 30));
                case 19 -> both("switchTo", from(-1, 3));
                case 20 -> both("roundOf", from(-1, 4));
                case 21 -> both("value", from(-1, 4), from(-1, 8));
                case 22 -> both("place", from(-1, 4), from(-1, 6));
                default -> {
                    both("chosen", from(-1, 3), from(-1, 3));
                    both("count", from(-1, 7));
                    both("letters");
                    both("check");
                }
            }
        }
    }

    /** Calls with numbers from end to end of int, without a net, with one, and with a run. */
    private void anyNumbers() {
        for (int stage = 0; stage < 6 && same; stage++) {
            switch (stage) {
                case 1 -> makeNet(from(1, 24));
                case 2 -> both("builtin", from(0, 4));
                case 3 -> both("prepare", from(0, 2), from(2, 8));
                case 4 -> both("stopAt", from(1, 4));
                case 5 -> both("deliverAll", 2, number(), from(0, 100));
                default -> both("check");
            }
            for (int i = 0; i < 60 && same; i++) {
                String[] call = TAKING_NUMBERS[random.nextInt(TAKING_NUMBERS.length)].split(" ");
                int[] v = new int[Integer.parseInt(call[1])];
                for (int j = 0; j < v.length; j++) {
                    v[j] = EDGES[random.nextInt(EDGES.length)];
                }
                both(call[0], v);
            }
        }
    }

    private void wholeRun() {
        makeNet(from(0, 3) == 0 ? from(1, 24) : from(1, 8));
        if (random.nextBoolean()) {
            both("builtin", from(0, 4));
        } else {
            anyRightProgram(from(1, 30));
        }
        for (int node = 0; node < model.nodes; node++) {
            both("input", node, from(0, 7), number());
            both("input", node, 0, from(0, 2));
        }
        both("prepare", from(0, 2), from(0, 1) == 0 ? 2 : from(2, 8));
        allPlaces();
        int stop = 0;
        for (int i = 0; i < 12 && same; i++) {
            if (from(0, 2) == 0) {
                stop += from(0, 3);
                both("stopAt", stop);
            }
            if (from(0, 3) == 0) {
                both("switchTo", from(0, 2));
            }
            for (int j = from(0, 8); j > 0 && model.letters() > 0; j--) {
                both("deliver", from(0, model.letters() - 1));
            }
            both("deliverAll", from(0, 2), number(), from(0, 60));
            allLetters();
            allRegisters();
        }
        both("deliverAll", 2, number(), 2000);
        both("deliverAll", 0, number(), 2000);
        sameAsPlain(stop);
        both("release");
    }

    private void makeNet(int nodes) {
        both("net", nodes);
        int[] order = new int[nodes];
        for (int i = 1; i < nodes; i++) {
            int j = from(0, i);
            order[i] = order[j];
            order[j] = i;
        }
        for (int i = 1; i < nodes; i++) {
            both("link", order[i], order[from(from(0, 1) == 0 ? 0 : i - 1, i - 1)]);
        }
        for (int more = from(0, 3) == 0 ? from(0, 60) : from(0, nodes); more > 0; more--) {
            both("link", from(0, nodes - 1), from(0, nodes - 1));
        }
    }

    private void allPlaces() {
        for (int node = 0; node < model.nodes; node++) {
            for (int what = 0; what < 6; what++) {
                both("place", node, what);
            }
        }
        for (int c = 0; c < model.leaders.length; c++) {
            for (int d = 0; d < model.leaders.length; d++) {
                both("chosen", c, d);
            }
        }
    }

    private void allLetters() {
        both("letters");
        for (int i = 0; i < model.letters(); i++) {
            for (int what = 0; what < 5; what++) {
                both("letter", i, what);
            }
        }
        for (int what = 0; what < 7; what++) {
            both("count", what);
        }
    }

    private void allRegisters() {
        for (int node = 0; node < model.nodes; node++) {
            both("roundOf", node);
            for (int r = 0; r < 8; r++) {
                both("value", node, r);
            }
        }
    }

    /** The promise of the whole: a run that came to rest is as the plain run. */
    private void sameAsPlain(int stop) {
        if (!same || model.letters() > 0) {
            return;
        }
        both("lockstep", stop);
        allPlain();
        allRegisters();
        for (int node = 0; node < model.nodes && same; node++) {
            Checks.due("roundOf at rest", stop, real.roundOf(node));
            for (int r = 0; r < 8; r++) {
                Checks.due("value at rest", real.plain(node, r), real.value(node, r));
            }
        }
    }
}
