import java.util.ArrayList;
import java.util.Arrays;
import java.util.List;
import java.util.Map;

/**
 * A run of calls on a new object, written as text, with the answers that are due. Calls stand on lines
 * of their own or between semicolons:
 *
 * <pre>
 *   link 0 1 = 0              the answer that is due
 *   link 0 0 ! Argument       the exception that is due, without Illegal.. and ..Exception
 *   net 24                    it must not throw; its answer must be that of the second writing
 *   8 x switchTo 0 = 1        so many times
 *   path 3, ring 3, hub 3     a net and its links (a hub: node 0 with all others)
 *   pairs 60                  so many links: 0 1, 0 2, .. 0 23, 1 2, ..
 *   words (0 1 5) (14 0 2)    the program is these words
 *   fill 3 64                 words 3 .. 63, each of which does nothing to speak of
 *   row 2 0 1 0 0 | ..        the letters under way, each with its five parts
 *   rounds 0 1, values 7 4 5, plains 7 4 5, places 0 -1 0 0 -1 0 2, counts 0 1 2 ..
 *                             of all nodes (in register 7); of node 0; all counts
 * </pre>
 *
 * Each script is run on LockstepNet and on the second writing. For each call that throws, a twin that
 * had every call but this one is asked all that can be asked: it must answer the same.
 */
final class Script {
    /** The document promises nothing of later calls, so no script goes on beyond these. */
    private static final int MOST_CALLS = 512;

    private static final Map<String, String> EXCEPTIONS = Map.of(
            "Argument", "IllegalArgumentException",
            "State", "IllegalStateException",
            "Element", "NoSuchElementException",
            "Index", "IndexOutOfBoundsException",
            "Unsupported", "UnsupportedOperationException");

    private record Call(String name, int[] v, String due) {
        boolean isRefused() {
            return due != null && due.endsWith("Exception");
        }

        @Override
        public String toString() {
            return name + Arrays.toString(v);
        }
    }

    private final String title;
    private final List<Call> calls = new ArrayList<>();

    private Script(String title, String text) {
        this.title = title;
        for (String line : text.split("[\n;]")) {
            if (!line.isBlank()) {
                addLine(line.strip());
            }
        }
    }

    static void run(String title, String text) {
        Script script = new Script(title, text);
        Checks.due(title + ": at most 512 calls", true, script.calls.size() <= MOST_CALLS);
        script.runAll();
        for (int i = 0; i < script.calls.size(); i++) {
            if (script.calls.get(i).isRefused()) {
                script.refusedChangesNothing(i);
            }
        }
    }

    /** The second writing behind a script's calls. */
    static Model modelAfter(String text) {
        Model model = new Model();
        for (Call call : new Script("", text).calls) {
            Checks.answer(() -> Calls.on(model, call.name, call.v));
        }
        return model;
    }

    // -------- reading

    private void addLine(String line) {
        String[] parts = line.split(" +");
        switch (parts[0]) {
            case "path", "ring", "hub" -> addNet(parts[0], number(parts[1]));
            case "pairs" -> addPairs(number(parts[1]));
            case "words" -> addWords(line.substring("words".length()).strip());
            case "fill" -> addFill(number(parts[1]), number(parts[2]));
            case "row" -> addRow(line.substring("row".length()).strip());
            case "rounds" -> addOfEach("roundOf", numbers(parts, 1, parts.length), false);
            case "values" -> addOfEach("value", numbers(parts, 1, parts.length), true);
            case "plains" -> addOfEach("plain", numbers(parts, 1, parts.length), true);
            case "places" -> addParts("place", number(parts[1]), numbers(parts, 2, parts.length));
            case "counts" -> addCounts(numbers(parts, 1, parts.length));
            default -> addCalls(parts);
        }
    }

    private void addCalls(String[] parts) {
        boolean repeated = parts.length > 1 && parts[1].equals("x");
        int first = repeated ? 2 : 0;
        int end = parts.length;
        String due = null;
        if (parts.length > 2 && (parts[end - 2].equals("=") || parts[end - 2].equals("!"))) {
            due = parts[end - 2].equals("=") ? Integer.toString(number(parts[end - 1]))
                    : EXCEPTIONS.get(parts[end - 1]);
            end -= 2;
        }
        for (int i = repeated ? number(parts[0]) : 1; i > 0; i--) {
            calls.add(new Call(parts[first], numbers(parts, first + 1, end), due));
        }
    }

    private void add(int due, String name, int... v) {
        calls.add(new Call(name, v, Integer.toString(due)));
    }

    private void addNet(String shape, int n) {
        calls.add(new Call("net", new int[] {n}, null));
        for (int i = 1; i < n; i++) {
            add(i - 1, "link", shape.equals("hub") ? 0 : i - 1, i);
        }
        if (shape.equals("ring")) {
            add(n - 1, "link", n - 1, 0);
        }
    }

    private void addPairs(int most) {
        int made = 0;
        for (int a = 0; a < 24; a++) {
            for (int b = a + 1; b < 24 && made < most; b++) {
                add(made++, "link", a, b);
            }
        }
    }

    private void addWords(String text) {
        calls.add(new Call("cutAt", new int[] {0}, null));
        int i = 0;
        for (String word : text.substring(1, text.length() - 1).split("\\) +\\(")) {
            String[] parts = word.split(" +");
            int[] w = Arrays.copyOf(numbers(parts, 0, parts.length), 4);
            add(i + 1, "word", i, w[0], w[1], w[2], w[3]);
            i++;
        }
    }

    private void addFill(int from, int end) {
        for (int i = from; i < end; i++) {
            add(i + 1, "word", i, 1, 6, 6, 0);
        }
    }

    private void addRow(String text) {
        String[] letters = text.isEmpty() ? new String[0] : text.split(" *\\| *");
        add(letters.length, "letters");
        for (int i = 0; i < letters.length; i++) {
            String[] parts = letters[i].split(" +");
            addParts("letter", i, numbers(parts, 0, parts.length));
        }
    }

    private void addParts(String name, int of, int[] want) {
        for (int what = 0; what < want.length; what++) {
            add(want[what], name, of, what);
        }
    }

    private void addCounts(int[] want) {
        for (int what = 0; what < want.length; what++) {
            add(want[what], "count", what);
        }
    }

    private void addOfEach(String name, int[] v, boolean inRegister) {
        for (int i = inRegister ? 1 : 0; i < v.length; i++) {
            if (inRegister) {
                add(v[i], name, i - 1, v[0]);
            } else {
                add(v[i], name, i);
            }
        }
    }

    private static int[] numbers(String[] parts, int from, int end) {
        int[] found = new int[end - from];
        for (int i = from; i < end; i++) {
            found[i - from] = number(parts[i]);
        }
        return found;
    }

    private static int number(String text) {
        return text.equals("MIN") ? Integer.MIN_VALUE : text.equals("MAX") ? Integer.MAX_VALUE
                : Integer.parseInt(text);
    }

    // -------- running

    private void runAll() {
        LockstepNet real = new LockstepNet();
        Model model = new Model();
        for (int i = 0; i < calls.size(); i++) {
            Call call = calls.get(i);
            String got = Checks.answer(() -> Calls.on(real, call.name, call.v));
            String modelled = Checks.answer(() -> Calls.on(model, call.name, call.v));
            String due = call.due == null ? modelled : call.due;
            String where = title + ": call " + (i + 1) + ", " + call;
            Checks.due(where, due, got);
            Checks.due(where + " (the second writing)", due, modelled);
            Checks.due(where + " does not throw", call.isRefused(), due.endsWith("Exception"));
            if (!due.equals(got)) {
                return;
            }
        }
    }

    private void refusedChangesNothing(int refused) {
        LockstepNet with = new LockstepNet();
        LockstepNet without = new LockstepNet();
        Model model = new Model();
        int used = 1;
        for (int i = 0; i < refused; i++) {
            Call call = calls.get(i);
            if (!call.isRefused()) {
                Checks.answer(() -> Calls.on(with, call.name, call.v));
                Checks.answer(() -> Calls.on(without, call.name, call.v));
                Checks.answer(() -> Calls.on(model, call.name, call.v));
                used++;
            }
        }
        Call call = calls.get(refused);
        Checks.answer(() -> Calls.on(with, call.name, call.v));
        List<Call> questions = new Questions(model).all();
        for (int i = 0; i < questions.size() && used < MOST_CALLS; i++, used++) {
            Call question = questions.get(i);
            String due = Checks.answer(() -> Calls.on(without, question.name, question.v));
            String got = Checks.answer(() -> Calls.on(with, question.name, question.v));
            Checks.due(title + ": behind the refused " + call + ", " + question, due, got);
        }
    }

    /** What tells all of an object's state: some of it shows only when the run goes on. */
    private static final class Questions {
        private final Model model;
        private final List<Call> asked = new ArrayList<>();
        private final List<Integer> nodes = new ArrayList<>();

        Questions(Model model) {
            this.model = model;
            for (int node = 0; node < model.nodes; node++) {
                if (model.nodes <= 5 || node < 2 || node == model.nodes - 1) {
                    nodes.add(node);
                }
            }
        }

        List<Call> all() {
            ask("check");
            ofPlain();
            if (model.running) {
                ofRun();
            }
            ofProgram();
            ofNet();
            return asked;
        }

        private void ask(String name, int... v) {
            asked.add(new Call(name, v, null));
        }

        private void ofPlain() {
            for (int node : nodes) {
                for (int r = 0; r < 8; r++) {
                    ask("plain", node, r);
                }
            }
        }

        private void ofNodes() {
            for (int node : nodes) {
                ask("roundOf", node);
                for (int r = 0; r < 8; r++) {
                    ask("value", node, r);
                }
            }
        }

        private void ofRun() {
            ask("letters");
            for (int i = 0; i < Math.min(8, model.letters()); i++) {
                for (int what = 0; what < 5; what++) {
                    ask("letter", i, what);
                }
            }
            ofNodes();
            for (int what = 0; what < 7; what++) {
                ask("count", what);
            }
            ask("stopAt", model.stop - 1);
            ask("stopAt", model.stop);
            ask("stopAt", Math.min(500, model.stop + 2));
            ask("letters");
            ask("deliverAll", 2, 7, 2000);
            ofNodes();
            ask("count", 2);
            for (int i = model.switches.size(); i < 10; i++) {
                ask("switchTo", 1);
            }
            ask("release");
        }

        private void ofProgram() {
            ask("lockstep", 3);
            ofPlain();
            ask("cutAt", model.words.size() + 1);
            ask("cutAt", model.words.size());
            for (int n = model.words.size() - 1; n > 0 && n > model.words.size() - 8; n--) {
                ask("cutAt", n);
                ask("check");
            }
            ask("cutAt", 0);
        }

        private void ofNet() {
            for (int node = 1; node < Math.min(5, model.nodes); node++) {
                ask("link", node - 1, node);
                ask("link", 0, node);
            }
            ask("prepare", 2, 2);
            ask("count", 4);
            ask("roundOf", model.nodes - 1);
            ask("roundOf", model.nodes);
        }
    }
}
