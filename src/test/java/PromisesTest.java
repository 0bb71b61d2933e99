import java.util.NoSuchElementException;

/** A method for each promise of the document: ordinary inputs, edges, and wrong inputs. */
public final class PromisesTest {
    private static final Class<IllegalArgumentException> ARGUMENT = IllegalArgumentException.class;
    private static final Class<IllegalStateException> STATE = IllegalStateException.class;
    private static final Class<NoSuchElementException> ELEMENT = NoSuchElementException.class;
    private static final Class<IndexOutOfBoundsException> INDEX = IndexOutOfBoundsException.class;
    private static final Class<UnsupportedOperationException> UNSUPPORTED =
            UnsupportedOperationException.class;

    public static void main(String[] args) {
        promise1NewObject();
        promise2Net();
        promise3Link();
        promise4Word();
        promise5Builtin();
        promise6CutAt();
        promise7CheckParts();
        promise7CheckEach();
        promise7CheckSkip();
        promise7CheckSkipAndWrongEach();
        promise8Input();
        promise9LockstepWords();
        promise9LockstepEach();
        promise9LockstepSkip();
        promise9LockstepCalls();
        promise10Plain();
        promise11Prepare();
        promise12Release();
        promise12NothingStays();
        promise13StopAt();
        promise14And15Letters();
        promise16DeliverByNodes();
        promise16DeliverByTree();
        promise16DeliverByClusters();
        promise16LateLetters();
        promise17DeliverAll();
        promise18SwitchTo();
        promise18SwitchOnTheRun();
        promise19RoundOf();
        promise20Value();
        promise21Place();
        promise22Chosen();
        promise23Count();
        longRuns();
        Checks.end();
    }

    private static LockstepNet ring(int n) {
        LockstepNet x = new LockstepNet();
        x.net(n);
        for (int i = 0; i < n; i++) {
            x.link(i, (i + 1) % n);
        }
        return x;
    }

    private static LockstepNet path(int n) {
        LockstepNet x = new LockstepNet();
        x.net(n);
        for (int i = 0; i + 1 < n; i++) {
            x.link(i, i + 1);
        }
        return x;
    }

    private static void words(LockstepNet x, String text) {
        x.cutAt(0);
        int i = 0;
        for (Model.Word w : Model.parse(text)) {
            x.word(i++, w.op(), w.r(), w.a(), w.b());
        }
    }

    private static void letter(LockstepNet x, int i, int kind, int from, int to, int round, int v) {
        int[] want = {kind, from, to, round, v};
        for (int what = 0; what < 5; what++) {
            int part = what;
            Checks.is("letter " + i + ", " + what, want[what], () -> x.letter(i, part));
        }
    }

    private static void promise1NewObject() {
        LockstepNet x = new LockstepNet();
        Checks.fails("1 plain", ELEMENT, () -> x.plain(0, 0));
        Checks.is("1 check", -1, x::check);
        Checks.is("1 letters", 0, x::letters);
        Checks.fails("1 cutAt", ARGUMENT, () -> x.cutAt(1));
        Checks.ends("1 cutAt", () -> x.cutAt(0));
        Checks.ends("1 lockstep", () -> x.lockstep(300));
        Checks.fails("1 prepare", STATE, () -> x.prepare(0, 2));
        Checks.is("1 word", 1, () -> x.word(0, 21, 7, 0, 0));
    }

    private static void promise2Net() {
        LockstepNet x = new LockstepNet();
        for (int n : new int[] {0, 25, -1, Integer.MIN_VALUE, Integer.MAX_VALUE}) {
            Checks.fails("2 net " + n, ARGUMENT, () -> x.net(n));
        }
        x.net(24);
        Checks.ends("2 last node", () -> x.input(23, 0, 5));
        Checks.fails("2 no node", ELEMENT, () -> x.input(24, 0, 5));
        x.link(0, 1);
        x.word(0, 2, 0, 0, 0);
        x.lockstep(1);
        Checks.is("2 plain", 10, () -> x.plain(23, 0));
        Checks.fails("2 net 0 changes nothing", ARGUMENT, () -> x.net(0));
        Checks.is("2 plain stays", 10, () -> x.plain(23, 0));
        x.net(24);
        Checks.is("2 plain is gone", 0, () -> x.plain(23, 0));
        Checks.is("2 the links are gone", 0, () -> x.link(1, 0));
        x.word(1, 21, 1, 0, 0);
        x.lockstep(1);
        Checks.is("2 the ports are gone", 1, () -> x.plain(0, 1));
        Checks.is("2 the inputs are gone", 0, () -> x.plain(23, 0));
        x.input(3, 0, 4);
        x.lockstep(1);
        Checks.is("2 the program stays", 8, () -> x.plain(3, 0));
        x.net(1);
        x.prepare(0, 2);
        Checks.fails("2 argument first", ARGUMENT, () -> x.net(0));
        Checks.fails("2 with a run", STATE, () -> x.net(1));
        Checks.is("2 the run stays", 0, () -> x.roundOf(0));
    }

    private static void promise3Link() {
        LockstepNet x = new LockstepNet();
        Checks.fails("3 no net", ELEMENT, () -> x.link(0, 0));
        x.net(3);
        Checks.fails("3 a", ELEMENT, () -> x.link(3, 0));
        Checks.fails("3 b", ELEMENT, () -> x.link(0, 3));
        Checks.fails("3 below", ELEMENT, () -> x.link(-1, -1));
        Checks.fails("3 same", ARGUMENT, () -> x.link(2, 2));
        Checks.is("3 first", 0, () -> x.link(0, 1));
        Checks.fails("3 again", STATE, () -> x.link(0, 1));
        Checks.fails("3 the other way round", STATE, () -> x.link(1, 0));
        Checks.is("3 second", 1, () -> x.link(2, 1));
        x.prepare(0, 2);
        Checks.fails("3 run: no node", ELEMENT, () -> x.link(3, 3));
        Checks.fails("3 run: same", ARGUMENT, () -> x.link(0, 0));
        Checks.fails("3 run", STATE, () -> x.link(0, 2));
        x.release();
        Checks.is("3 third", 2, () -> x.link(0, 2));
        LockstepNet full = new LockstepNet();
        full.net(24);
        int made = 0;
        for (int a = 0; a < 24 && made < 60; a++) {
            for (int b = a + 1; b < 24 && made < 60; b++) {
                int one = a;
                int other = b;
                Checks.is("3 many", made++, () -> full.link(one, other));
            }
        }
        Checks.fails("3 state ahead of 60", STATE, () -> full.link(1, 0));
        Checks.fails("3 argument ahead of 60", ARGUMENT, () -> full.link(1, 1));
        Checks.fails("3 60", UNSUPPORTED, () -> full.link(22, 23));
        full.prepare(0, 2);
        Checks.fails("3 run ahead of 60", STATE, () -> full.link(22, 23));
        Checks.is("3 count", 120, () -> full.count(4));
    }

    private static void promise4Word() {
        LockstepNet x = new LockstepNet();
        Checks.fails("4 beyond", ARGUMENT, () -> x.word(1, 0, 0, 0, 0));
        Checks.fails("4 below", ARGUMENT, () -> x.word(-1, 0, 0, 0, 0));
        Checks.is("4 first", 1, () -> x.word(0, 0, 1, 7, 0));
        Checks.is("4 second", 2, () -> x.word(1, 0, 2, 8, 0));
        Checks.is("4 in the place", 2, () -> x.word(0, 0, 1, 9, 0));
        x.net(1);
        x.lockstep(1);
        Checks.is("4 r1", 9, () -> x.plain(0, 1));
        Checks.is("4 r2", 8, () -> x.plain(0, 2));
        Checks.is("4 wrong ones too", 3, () -> x.word(2, -5, 99, -1, -1));
        Checks.is("4 mended", 3, () -> x.word(2, 1, 3, 1, 0));
        x.prepare(0, 2);
        Checks.fails("4 run: argument", ARGUMENT, () -> x.word(4, 0, 0, 0, 0));
        Checks.fails("4 run", STATE, () -> x.word(0, 0, 1, 0, 0));
        x.release();
        x.lockstep(1);
        Checks.is("4 a throw changes nothing", 9, () -> x.plain(0, 3));
        for (int i = 3; i < 64; i++) {
            int at = i;
            Checks.is("4 many", i + 1, () -> x.word(at, 0, 0, at, 0));
        }
        Checks.fails("4 64", UNSUPPORTED, () -> x.word(64, 0, 0, 0, 0));
        Checks.fails("4 65", ARGUMENT, () -> x.word(65, 0, 0, 0, 0));
        Checks.is("4 in the last place", 64, () -> x.word(63, 0, 0, -3, 0));
        x.prepare(0, 2);
        Checks.fails("4 run ahead of 64", STATE, () -> x.word(64, 0, 0, 0, 0));
        x.release();
        x.lockstep(1);
        Checks.is("4 the last word is done", -3, () -> x.plain(0, 0));
    }

    private static void promise5Builtin() {
        LockstepNet x = path(4);
        int[] sizes = {15, 7, 17, 11, 32};
        for (int k = 0; k < 5; k++) {
            int which = k;
            Checks.is("5 builtin " + k, sizes[k], () -> x.builtin(which));
            Checks.is("5 right " + k, -1, x::check);
        }
        Checks.fails("5 below", ARGUMENT, () -> x.builtin(-1));
        Checks.fails("5 beyond", ARGUMENT, () -> x.builtin(5));
        Checks.ends("5 a throw changes nothing", () -> x.cutAt(32));
        x.builtin(3);
        x.prepare(0, 2);
        Checks.fails("5 run: argument", ARGUMENT, () -> x.builtin(5));
        Checks.fails("5 run", STATE, () -> x.builtin(0));
        x.release();
        x.input(0, 0, 1);
        x.lockstep(5);
        int[] walks = {2, 0, 3, 0};
        for (int node = 0; node < 4; node++) {
            int at = node;
            Checks.is("5 walks of 4 steps from node 0", walks[node], () -> x.plain(at, 0));
        }
        LockstepNet colours = ring(5);
        colours.builtin(4);
        colours.lockstep(8);
        for (int node = 0; node < 5; node++) {
            int at = node;
            int next = (node + 1) % 5;
            Checks.due("5 neighbours' colours differ", true,
                    colours.plain(at, 1) != colours.plain(next, 1));
        }
    }

    private static void promise6CutAt() {
        LockstepNet x = new LockstepNet();
        x.builtin(1);
        Checks.fails("6 below", ARGUMENT, () -> x.cutAt(-1));
        Checks.fails("6 beyond", ARGUMENT, () -> x.cutAt(8));
        Checks.ends("6 all", () -> x.cutAt(7));
        Checks.ends("6 some", () -> x.cutAt(5));
        Checks.fails("6 gone", ARGUMENT, () -> x.cutAt(6));
        Checks.is("6 right", -1, x::check);
        Checks.ends("6 within an EACH", () -> x.cutAt(4));
        Checks.is("6 wrong", 0, x::check);
        Checks.is("6 behind", 5, () -> x.word(4, 0, 0, 0, 0));
        x.net(1);
        x.prepare(0, 2);
        Checks.fails("6 run: argument", ARGUMENT, () -> x.cutAt(9));
        Checks.fails("6 run", STATE, () -> x.cutAt(0));
        x.release();
        Checks.is("6 none is left", 1, () -> {
            x.cutAt(0);
            return x.word(0, 0, 0, 0, 0);
        });
    }

    private static void checkIs(int want, String text) {
        LockstepNet x = new LockstepNet();
        words(x, text);
        Checks.is("7 " + text, want, x::check);
    }

    private static void promise7CheckParts() {
        checkIs(0, "(-1 0)");
        checkIs(0, "(22 0)");
        for (int op = 0; op <= 21; op++) {
            boolean inEach = op >= 16 && op <= 18;
            boolean reach = op == 14 || op == 15;
            String before = inEach ? "(15 0 1) " : "";
            String behind = reach ? " (0 0)" : "";
            int i = inEach ? 1 : 0;
            boolean usesA = op >= 1 && op <= 13;
            boolean usesB = op >= 2 && op <= 11;
            String a = reach ? " 1" : " 7";
            checkIs(-1, before + "(" + op + " 7" + a + " 7)" + behind);
            checkIs(-1, before + "(" + op + " 0" + (reach ? " 1" : " 0") + " 0)" + behind);
            checkIs(i, before + "(" + op + " 8" + a + " 0)" + behind);
            checkIs(i, before + "(" + op + " -1" + a + " 0)" + behind);
            if (!reach) {
                checkIs(usesA ? i : -1, before + "(" + op + " 0 8 0)");
                checkIs(usesA ? i : -1, before + "(" + op + " 0 -1 0)");
            }
            checkIs(usesB ? i : -1, before + "(" + op + " 0" + a + " 8)" + behind);
            checkIs(usesB ? i : -1, before + "(" + op + " 0" + a + " -1)" + behind);
        }
        checkIs(1, "(0 0) (0 8) (0 9)");
    }

    private static void promise7CheckEach() {
        checkIs(0, "(16 0)");
        checkIs(0, "(17 0)");
        checkIs(0, "(18 0)");
        checkIs(0, "(15 0 1)");
        checkIs(0, "(15 0 0) (0 0)");
        checkIs(0, "(15 0 -1) (0 0)");
        checkIs(0, "(15 0 2147483647) (0 0)");
        checkIs(0, "(15 0 -2147483648) (0 0)");
        checkIs(0, "(15 0 2) (0 0)");
        checkIs(-1, "(15 0 2) (0 0) (16 0)");
        checkIs(2, "(15 0 1) (16 0) (16 0)");
        checkIs(-1, "(15 0 1) (16 0) (15 0 1) (18 0)");
        checkIs(1, "(15 0 2) (15 0 1) (16 0)");
        checkIs(2, "(15 0 2) (0 0) (15 0 1) (16 0)");
    }

    private static void promise7CheckSkip() {
        checkIs(0, "(14 0 1)");
        checkIs(0, "(14 0 0) (0 0)");
        checkIs(0, "(14 0 -1) (0 0)");
        checkIs(0, "(14 0 2147483647) (0 0)");
        checkIs(0, "(14 0 -2147483648) (0 0)");
        checkIs(0, "(14 0 2) (0 0)");
        checkIs(-1, "(14 0 1) (0 0)");
        checkIs(-1, "(14 0 2) (15 0 1) (16 0)");
        checkIs(-1, "(14 0 2) (15 0 1) (16 0) (0 0)");
        checkIs(0, "(14 0 1) (15 0 1) (16 0)");
        checkIs(0, "(14 0 2) (15 0 2) (16 0) (16 0)");
        checkIs(0, "(14 0 2) (15 0 2) (16 0) (16 0) (0 0)");
        checkIs(-1, "(14 0 3) (15 0 2) (16 0) (16 0) (0 0)");
        checkIs(-1, "(14 0 1) (0 0) (15 0 1) (16 0)");
        checkIs(0, "(14 0 3) (0 0) (0 0) (15 0 1) (16 0)");
        checkIs(-1, "(15 0 2) (14 0 1) (16 0)");
        checkIs(1, "(15 0 2) (14 0 2) (16 0) (0 0)");
        checkIs(2, "(15 0 2) (16 0) (14 0 1) (0 0)");
        checkIs(-1, "(15 0 1) (16 0) (14 0 1) (0 0)");
        checkIs(-1, "(14 0 1) (14 0 1) (0 0)");
    }

    /** An EACH that is wrong has words too, also where the program has ended. */
    private static void promise7CheckSkipAndWrongEach() {
        checkIs(0, "(14 0 1) (15 0 1)");
        checkIs(0, "(14 0 1) (15 0 2147483647)");
        checkIs(0, "(14 0 1) (15 0 2147483647) (0 0)");
        checkIs(0, "(14 0 2) (0 0) (15 0 1)");
        checkIs(0, "(14 0 2) (15 0 2) (0 0)");
        checkIs(1, "(0 0) (14 0 1) (15 0 3)");
        checkIs(2, "(15 0 1) (16 0) (14 0 1) (15 0 1)");
        checkIs(0, "(14 0 1) (15 8 1)");
        checkIs(0, "(14 0 1) (15 8 1) (0 0)");
        checkIs(1, "(14 0 2) (15 8 1) (0 0)");
        checkIs(0, "(14 0 3) (15 0 2) (15 0 2) (0 0) (0 0)");
        checkIs(0, "(14 0 3) (15 0 2) (15 0 2) (0 0)");
        checkIs(2, "(14 0 3) (15 0 2) (15 0 1) (0 0)");
        checkIs(1, "(14 0 1) (15 0 0)");
        checkIs(1, "(14 0 1) (15 0 -1)");
        checkIs(1, "(14 0 1) (15 0 -2147483648)");
        checkIs(2, "(15 0 2) (14 0 1) (15 0 1)");
        checkIs(62, "(0 0) ".repeat(62) + "(14 0 1) (15 0 1)");
    }

    private static void promise8Input() {
        LockstepNet x = new LockstepNet();
        Checks.fails("8 no net", ELEMENT, () -> x.input(0, 8, 1));
        x.net(2);
        x.link(0, 1);
        Checks.fails("8 no node", ELEMENT, () -> x.input(2, 8, 1));
        Checks.fails("8 below", ELEMENT, () -> x.input(-1, 0, 1));
        Checks.fails("8 register", INDEX, () -> x.input(1, 8, 1));
        Checks.fails("8 register below", INDEX, () -> x.input(1, -1, 1));
        x.input(1, 7, Integer.MIN_VALUE);
        x.input(1, 0, 5);
        x.input(1, 0, 6);
        x.input(0, 7, 9);
        x.lockstep(0);
        Checks.is("8 r7", Integer.MIN_VALUE, () -> x.plain(1, 7));
        Checks.is("8 r0", 6, () -> x.plain(1, 0));
        Checks.is("8 the other node", 9, () -> x.plain(0, 7));
        Checks.is("8 unsaid", 0, () -> x.plain(0, 0));
        x.prepare(1, 2);
        Checks.fails("8 run: no node", ELEMENT, () -> x.input(2, 8, 1));
        Checks.fails("8 run: register", INDEX, () -> x.input(1, 8, 1));
        Checks.fails("8 run", STATE, () -> x.input(1, 0, 1));
        Checks.is("8 in the run", 6, () -> x.value(1, 0));
        x.release();
        x.prepare(1, 2);
        Checks.is("8 inputs stay", 6, () -> x.value(1, 0));
    }

    private static void reckons(int want, int op, int a, int b) {
        LockstepNet x = new LockstepNet();
        x.net(1);
        x.word(0, op, 3, 1, 2);
        x.input(0, 1, a);
        x.input(0, 2, b);
        x.input(0, 3, 77);
        x.lockstep(1);
        Checks.is("9 op " + op + " of " + a + ", " + b, want, () -> x.plain(0, 3));
        Checks.is("9 a stays", a, () -> x.plain(0, 1));
        Checks.is("9 b stays", b, () -> x.plain(0, 2));
    }

    private static void promise9LockstepWords() {
        int least = Integer.MIN_VALUE;
        int most = Integer.MAX_VALUE;
        reckons(1, 0, 5, 6);
        reckons(5, 1, 5, 6);
        reckons(11, 2, 5, 6);
        reckons(least, 2, most, 1);
        reckons(-1, 3, 5, 6);
        reckons(most, 3, least, 1);
        reckons(30, 4, 5, 6);
        reckons(65536 * 65537 & 0xffffffff, 4, 65536, 65537);
        reckons(5, 5, 5, 6);
        reckons(least, 5, 6, least);
        reckons(6, 6, 5, 6);
        reckons(6, 6, 6, least);
        reckons(1, 7, least, 1);
        reckons(0, 7, 6, 6);
        reckons(0, 7, 6, 5);
        reckons(1, 8, 6, 6);
        reckons(0, 8, 6, 5);
        reckons(4, 9, 12, 6);
        reckons(14, 10, 12, 6);
        reckons(10, 11, 12, 6);
        reckons(1, 12, 0, 0);
        reckons(least, 12, 31, 0);
        reckons(1, 12, 32, 0);
        reckons(least, 12, -1, 0);
        reckons(0, 13, 0, 0);
        reckons(0, 13, 6, 0);
        reckons(3, 13, 7, 0);
        reckons(31, 13, most, 0);
        reckons(32, 13, -1, 0);
        reckons(1, 19, 5, 6);
        reckons(0, 20, 5, 6);
        reckons(0, 21, 5, 6);
        LockstepNet x = path(3);
        words(x, "(20 1) (21 2) (19 3) (0 4 -9)");
        x.lockstep(7);
        Checks.is("9 SELF", 2, () -> x.plain(2, 1));
        Checks.is("9 PORTS of 1", 2, () -> x.plain(1, 2));
        Checks.is("9 PORTS of 2", 1, () -> x.plain(2, 2));
        Checks.is("9 ROUND", 7, () -> x.plain(0, 3));
        Checks.is("9 SET", -9, () -> x.plain(0, 4));
    }

    private static void promise9LockstepEach() {
        LockstepNet x = new LockstepNet();
        x.net(4);
        x.link(2, 0);
        x.link(0, 1);
        x.input(3, 4, 50);
        words(x, "(15 4 3) (0 5 100) (2 6 6 5) (2 6 6 4)");
        x.lockstep(1);
        Checks.is("9 EACH of two ports", 201, () -> x.plain(0, 6));
        Checks.is("9 its last number", 1, () -> x.plain(0, 4));
        Checks.is("9 EACH of one port", 100, () -> x.plain(1, 6));
        Checks.is("9 without ports r stays", 50, () -> x.plain(3, 4));
        Checks.is("9 without ports nothing is done", 0, () -> x.plain(3, 5));
        words(x, "(20 0) (15 4 3) (17 1) (2 2 2 2) (2 2 2 1) (15 4 1) (18 0)");
        x.lockstep(2);
        Checks.is("9 by ports: 2 ahead of 1", 5, () -> x.plain(0, 2));
        words(x, "(15 4 2) (16 1) (2 2 2 1) (20 3) (14 3 2) (15 4 1) (18 0)");
        x.lockstep(3);
        Checks.is("9 GOT also a 0", 4, () -> x.plain(0, 2));
        Checks.is("9 GOT of none", 0, () -> x.plain(2, 2));
        words(x, "(15 4 6) (17 1) (16 2) (0 0 5) (18 0) (0 0 6) (18 0) (0 0 7)");
        x.lockstep(2);
        Checks.is("9 SEND in the place of one, as it is then", 6, () -> x.plain(0, 1));
        words(x, "(15 4 3) (17 1) (0 4 1) (18 4) (21 4)");
        x.lockstep(2);
        Checks.is("9 the port is not r", 1, () -> x.plain(2, 1));
        Checks.is("9 the port is not r, 1", 1, () -> x.plain(1, 1));
        words(x, "(15 4 1) (17 1) (19 5) (0 6 2) (7 5 5 6) (14 5 2) (15 4 1) (18 5)");
        x.lockstep(2);
        Checks.is("9 of the round before", 1, () -> x.plain(0, 1));
        x.lockstep(3);
        Checks.is("9 not of one before that", 0, () -> x.plain(0, 1));
    }

    private static void promise9LockstepSkip() {
        LockstepNet x = path(2);
        words(x, "(0 1 5) (14 0 2) (0 1 6) (0 2 7) (0 3 8)");
        x.input(1, 0, -1);
        x.lockstep(1);
        Checks.is("9 SKIP with 0", 5, () -> x.plain(0, 1));
        Checks.is("9 both are left out", 0, () -> x.plain(0, 2));
        Checks.is("9 not the third", 8, () -> x.plain(0, 3));
        Checks.is("9 no SKIP", 6, () -> x.plain(1, 1));
        Checks.is("9 no SKIP, 2", 7, () -> x.plain(1, 2));
        words(x, "(14 0 3) (15 4 2) (0 1 6) (0 2 7)");
        x.lockstep(1);
        Checks.is("9 SKIP over an EACH to the end", 0, () -> x.plain(0, 1));
        Checks.is("9 over none", 7, () -> x.plain(1, 2));
        LockstepNet y = ring(3);
        words(y, "(15 4 3) (0 1 5) (14 4 1) (2 2 2 1) (0 3 1)");
        y.lockstep(1);
        Checks.is("9 SKIP to the end of an EACH's words", 5, () -> y.plain(0, 2));
        Checks.is("9 and behind them", 1, () -> y.plain(0, 3));
    }

    private static void promise9LockstepCalls() {
        LockstepNet x = new LockstepNet();
        Checks.fails("9 below", ARGUMENT, () -> x.lockstep(-1));
        Checks.fails("9 beyond", ARGUMENT, () -> x.lockstep(301));
        x.word(0, 99, 0, 0, 0);
        Checks.fails("9 argument first", ARGUMENT, () -> x.lockstep(301));
        Checks.fails("9 wrong word, also without a net", STATE, () -> x.lockstep(0));
        words(x, "(0 1 1) (2 0 0 1)");
        x.net(1);
        x.input(0, 0, 10);
        x.lockstep(300);
        Checks.is("9 registers stay from round to round", 310, () -> x.plain(0, 0));
        x.lockstep(2);
        Checks.is("9 always from the inputs", 12, () -> x.plain(0, 0));
        x.word(0, 99, 0, 0, 0);
        Checks.fails("9 wrong word", STATE, () -> x.lockstep(1));
        Checks.is("9 a throw changes nothing", 12, () -> x.plain(0, 0));
        x.word(0, 0, 1, 1, 0);
        x.prepare(0, 2);
        x.stopAt(5);
        x.lockstep(7);
        Checks.is("9 with a run", 17, () -> x.plain(0, 0));
        Checks.is("9 the run stays", 15, () -> x.value(0, 0));
        x.stopAt(6);
        Checks.is("9 and goes on", 16, () -> x.value(0, 0));
        LockstepNet two = path(2);
        words(two, "(15 4 2) (17 1) (2 0 0 1) (20 2) (0 3 1) (2 2 2 3) (15 4 1) (18 2)");
        two.prepare(0, 2);
        two.stopAt(3);
        two.deliverAll(0, 0, 7);
        two.lockstep(9);
        two.deliverAll(0, 0, 2000);
        Checks.is("9 letters of a run are its own", 4, () -> two.value(0, 0));
        Checks.is("9 as are those of the plain run", 16, () -> two.plain(0, 0));
    }

    private static void promise10Plain() {
        LockstepNet x = new LockstepNet();
        Checks.fails("10 no net", ELEMENT, () -> x.plain(0, 9));
        x.net(2);
        x.input(1, 3, 5);
        Checks.is("10 before any", 0, () -> x.plain(1, 3));
        Checks.fails("10 no node", ELEMENT, () -> x.plain(2, 8));
        Checks.fails("10 register", INDEX, () -> x.plain(1, 8));
        Checks.fails("10 register below", INDEX, () -> x.plain(1, -1));
        x.lockstep(0);
        x.input(1, 3, 6);
        x.link(0, 1);
        x.builtin(1);
        Checks.is("10 the latest", 5, () -> x.plain(1, 3));
        x.prepare(0, 2);
        Checks.is("10 with a run", 5, () -> x.plain(1, 3));
        x.release();
        x.net(2);
        Checks.is("10 another net", 0, () -> x.plain(1, 3));
    }

    private static void promise11Prepare() {
        LockstepNet x = new LockstepNet();
        Checks.fails("11 argument first", ARGUMENT, () -> x.prepare(3, 2));
        Checks.fails("11 no net", STATE, () -> x.prepare(0, 2));
        x.net(3);
        x.link(0, 1);
        Checks.fails("11 not reached", STATE, () -> x.prepare(0, 2));
        x.link(1, 2);
        Checks.fails("11 way below", ARGUMENT, () -> x.prepare(-1, 2));
        Checks.fails("11 p below", ARGUMENT, () -> x.prepare(0, 1));
        Checks.fails("11 p beyond", ARGUMENT, () -> x.prepare(0, 9));
        x.word(0, 99, 0, 0, 0);
        Checks.fails("11 wrong word", STATE, () -> x.prepare(0, 2));
        Checks.is("11 no run yet", 0, x::letters);
        Checks.fails("11 none", STATE, () -> x.roundOf(0));
        x.word(0, 0, 0, 0, 0);
        Checks.is("11 p 2", 2, () -> x.prepare(0, 2));
        Checks.fails("11 again", STATE, () -> x.prepare(0, 2));
        Checks.fails("11 again, argument first", ARGUMENT, () -> x.prepare(0, 9));
        x.release();
        Checks.is("11 p 8", 3, () -> x.prepare(2, 8));
        x.stopAt(4);
        x.deliverAll(0, 0, 2000);
        Checks.is("11 did rounds", 4, () -> x.roundOf(2));
        x.release();
        x.input(2, 5, 55);
        x.prepare(1, 3);
        Checks.is("11 from round 0", 0, () -> x.roundOf(2));
        Checks.is("11 with the inputs", 55, () -> x.value(2, 5));
        Checks.is("11 counts are anew", 0, () -> x.count(2));
        Checks.is("11 no letters", 0, x::letters);
        Checks.ends("11 STOP is 0", () -> x.stopAt(0));
        Checks.is("11 nothing to do", 0, x::letters);
    }

    private static void promise12Release() {
        LockstepNet x = path(2);
        Checks.fails("12 none", STATE, x::release);
        x.builtin(1);
        x.prepare(0, 2);
        x.stopAt(3);
        x.deliverAll(0, 0, 3);
        Checks.ends("12 over", x::release);
        Checks.fails("12 again", STATE, x::release);
        Checks.is("12 letters", 0, x::letters);
        Checks.fails("12 letter", INDEX, () -> x.letter(0, 0));
        Checks.fails("12 value", STATE, () -> x.value(0, 0));
        Checks.fails("12 count", INDEX, () -> x.count(0));
        Checks.is("12 anew", 1, () -> x.prepare(0, 2));
        x.stopAt(1);
        Checks.is("12 nothing of the old run", 2, x::letters);
        Checks.is("12 all of the new run", 6, () -> x.deliverAll(0, 0, 2000));
        Checks.is("12 and no more", 1, () -> x.roundOf(0));
    }

    /** A run behind one that was released at any point is as the first run of a new object. */
    private static void promise12NothingStays() {
        for (int before = 0; before < 3; before++) {
            for (int way = 0; way < 3; way++) {
                for (int delivered = 0; delivered < 60; delivered += 7) {
                    LockstepNet used = ring(7);
                    used.builtin(1);
                    used.prepare(before, 8);
                    used.switchTo(way);
                    used.stopAt(9);
                    used.deliverAll(1, 0, delivered);
                    used.release();
                    LockstepNet fresh = ring(7);
                    fresh.builtin(1);
                    sameRun(fresh, used, way);
                }
            }
        }
    }

    private static void sameRun(LockstepNet fresh, LockstepNet used, int way) {
        Checks.is("12 clusters", fresh.prepare(way, 2), () -> used.prepare(way, 2));
        fresh.stopAt(2);
        used.stopAt(2);
        for (int i = 0; i < 12; i++) {
            int seed = i;
            Checks.is("12 delivered", fresh.deliverAll(2, i, 9), () -> used.deliverAll(2, seed, 9));
            for (int j = 0; j < fresh.letters(); j++) {
                letter(used, j, fresh.letter(j, 0), fresh.letter(j, 1), fresh.letter(j, 2),
                        fresh.letter(j, 3), fresh.letter(j, 4));
            }
        }
        for (int what = 0; what < 7; what++) {
            int which = what;
            Checks.is("12 count " + what, fresh.count(what), () -> used.count(which));
        }
        for (int node = 0; node < 7; node++) {
            for (int what = 0; what < 6; what++) {
                int at = node;
                int part = what;
                Checks.is("12 place", fresh.place(node, what), () -> used.place(at, part));
            }
        }
    }

    private static void promise13StopAt() {
        LockstepNet x = path(3);
        Checks.fails("13 state first", STATE, () -> x.stopAt(501));
        x.prepare(0, 2);
        Checks.fails("13 below", ARGUMENT, () -> x.stopAt(-1));
        Checks.fails("13 beyond", ARGUMENT, () -> x.stopAt(501));
        Checks.is("13 nothing yet", 0, x::letters);
        x.stopAt(1);
        Checks.is("13 by numbers", 4, x::letters);
        letter(x, 0, 2, 0, 1, 0, 0);
        letter(x, 1, 2, 1, 0, 0, 0);
        letter(x, 2, 2, 1, 2, 0, 0);
        letter(x, 3, 2, 2, 1, 0, 0);
        x.stopAt(1);
        Checks.is("13 the same again", 4, x::letters);
        Checks.fails("13 less", ARGUMENT, () -> x.stopAt(0));
        Checks.is("13 all", 4, () -> x.deliverAll(0, 0, 2000));
        Checks.is("13 stops there", 1, () -> x.roundOf(1));
        x.stopAt(2);
        Checks.is("13 goes on", 4, x::letters);
        x.stopAt(500);
        Checks.fails("13 less than 500", ARGUMENT, () -> x.stopAt(499));
        x.release();
        x.prepare(0, 2);
        Checks.ends("13 anew", () -> x.stopAt(1));
        LockstepNet lone = new LockstepNet();
        lone.net(1);
        lone.builtin(4);
        for (int way = 0; way < 3; way++) {
            lone.prepare(way, 2);
            lone.stopAt(500);
            Checks.is("13 a lone node needs no letters, way " + way, 500, () -> lone.roundOf(0));
            Checks.is("13 and sends none", 0, lone::letters);
            lone.release();
        }
    }

    private static void promise14And15Letters() {
        LockstepNet x = path(2);
        x.builtin(1);
        x.input(0, 0, -7);
        x.input(1, 0, 9);
        Checks.is("14 without a run", 0, x::letters);
        Checks.fails("15 without a run", INDEX, () -> x.letter(0, 0));
        x.prepare(0, 2);
        Checks.is("14 none", 0, x::letters);
        Checks.fails("15 none", INDEX, () -> x.letter(0, 0));
        x.stopAt(1);
        Checks.is("14 SAFE", 2, x::letters);
        x.deliver(0);
        x.deliver(0);
        Checks.is("14 the program's", 2, x::letters);
        letter(x, 0, 0, 1, 0, 1, 9);
        letter(x, 1, 0, 0, 1, 1, -7);
        Checks.fails("15 below", INDEX, () -> x.letter(-1, 0));
        Checks.fails("15 beyond", INDEX, () -> x.letter(2, 0));
        Checks.fails("15 part below", INDEX, () -> x.letter(0, -1));
        Checks.fails("15 part beyond", INDEX, () -> x.letter(0, 5));
        x.deliver(0);
        letter(x, 0, 0, 0, 1, 1, -7);
        letter(x, 1, 1, 0, 1, 1, 0);
        x.release();
        Checks.is("14 over", 0, x::letters);
    }

    private static void promise16DeliverByNodes() {
        LockstepNet x = path(3);
        Checks.fails("16 without a run", INDEX, () -> x.deliver(0));
        words(x, "(15 4 1) (18 4)");
        x.prepare(0, 2);
        x.stopAt(1);
        Checks.fails("16 below", INDEX, () -> x.deliver(-1));
        Checks.fails("16 beyond", INDEX, () -> x.deliver(4));
        Checks.is("16 nothing changed", 4, x::letters);
        Checks.is("16 SAFE from 2 to 1", 2, () -> x.deliver(3));
        Checks.is("16 1 waits for 0", 0, () -> x.roundOf(1));
        Checks.is("16 SAFE from 0 to 1", 2, () -> x.deliver(0));
        Checks.is("16 1 goes on", 1, () -> x.roundOf(1));
        letter(x, 0, 2, 1, 0, 0, 0);
        letter(x, 1, 2, 1, 2, 0, 0);
        letter(x, 2, 0, 1, 0, 1, 0);
        letter(x, 3, 0, 1, 2, 1, 1);
        x.stopAt(2);
        Checks.is("16 not safe: nothing is sent", 4, x::letters);
        Checks.is("16 a letter", 0, () -> x.deliver(2));
        letter(x, 3, 1, 0, 1, 1, 0);
        Checks.is("16 a receipt", 1, () -> x.deliver(3));
        Checks.is("16 one is not receipted", 3, x::letters);
        x.deliver(2);
        Checks.is("16 the other receipt", 1, () -> x.deliver(2));
        letter(x, 2, 2, 1, 0, 1, 0);
        letter(x, 3, 2, 1, 2, 1, 0);
        Checks.is("16 SAFE of round 1 ahead of that of 0", 2, () -> x.deliver(2));
        Checks.is("16 stays for then", 0, () -> x.roundOf(0));
        Checks.is("16 SAFE of round 0", 2, () -> x.deliver(0));
        Checks.is("16 0 goes on", 1, () -> x.roundOf(0));
        letter(x, 2, 0, 0, 1, 1, 0);
        x.deliver(2);
        Checks.is("16 receipt", 1, () -> x.deliver(2));
        Checks.is("16 0 knew of round 1", 2, () -> x.roundOf(0));
        letter(x, 2, 2, 0, 1, 1, 0);
        letter(x, 3, 0, 0, 1, 2, 0);
    }

    private static void promise16DeliverByTree() {
        LockstepNet x = new LockstepNet();
        x.net(4);
        x.link(3, 0);
        x.link(1, 0);
        x.link(3, 2);
        x.link(1, 2);
        words(x, "(15 4 1) (18 4)");
        x.prepare(1, 2);
        x.stopAt(1);
        Checks.is("16 READY of the leaves", 2, x::letters);
        letter(x, 0, 3, 2, 1, 0, 0);
        letter(x, 1, 3, 3, 0, 0, 0);
        x.deliver(1);
        x.deliver(0);
        Checks.is("16 one READY more", 1, x::letters);
        letter(x, 0, 3, 1, 0, 0, 0);
        x.deliver(0);
        Checks.is("16 the root goes on", 1, () -> x.roundOf(0));
        Checks.is("16 GO ahead of its letters", 4, x::letters);
        letter(x, 0, 4, 0, 1, 0, 0);
        letter(x, 1, 4, 0, 3, 0, 0);
        letter(x, 2, 0, 0, 3, 1, 0);
        letter(x, 3, 0, 0, 1, 1, 1);
        Checks.is("16 GO", 4, () -> x.deliver(0));
        Checks.is("16 1 goes on", 1, () -> x.roundOf(1));
        letter(x, 3, 4, 1, 2, 0, 0);
        letter(x, 4, 0, 1, 0, 1, 0);
        letter(x, 5, 0, 1, 2, 1, 1);
        Checks.is("16 2 not yet", 0, () -> x.roundOf(2));
        x.stopAt(2);
        x.deliverAll(0, 0, 2000);
        Checks.is("16 all", 2, () -> x.roundOf(2));
        Checks.is("16 others", 12, () -> x.count(2));
    }

    private static void promise16DeliverByClusters() {
        LockstepNet x = new LockstepNet();
        x.net(5);
        x.link(0, 1);
        x.link(0, 2);
        x.link(2, 3);
        x.link(3, 4);
        x.link(1, 3);
        words(x, "(0 0)");
        Checks.is("16 clusters 0 1 2 and 3 4", 2, () -> x.prepare(2, 2));
        x.stopAt(1);
        Checks.is("16 READY", 3, x::letters);
        letter(x, 0, 3, 1, 0, 0, 0);
        letter(x, 1, 3, 2, 0, 0, 0);
        letter(x, 2, 3, 4, 3, 0, 0);
        x.deliver(1);
        x.deliver(0);
        letter(x, 1, 5, 0, 1, 0, 0);
        letter(x, 2, 5, 0, 2, 0, 0);
        Checks.is("16 CLUSTER", 5, () -> x.deliver(2));
        Checks.is("16 2 has the chosen link", 3, x::letters);
        letter(x, 2, 6, 2, 3, 0, 0);
        Checks.is("16 NEIGHBOUR ahead of all else", 6, () -> x.deliver(2));
        Checks.is("16 CLUSTER to 1", 5, () -> x.deliver(1));
        letter(x, 1, 7, 1, 0, 0, 0);
        Checks.is("16 ALL", 7, () -> x.deliver(1));
        Checks.is("16 READY of 4", 3, () -> x.deliver(0));
        letter(x, 0, 5, 3, 4, 0, 0);
        letter(x, 1, 6, 3, 2, 0, 0);
        x.deliver(1);
        letter(x, 1, 7, 2, 0, 0, 0);
        Checks.is("16 ALL of 2", 7, () -> x.deliver(1));
        Checks.is("16 the leader goes on", 1, () -> x.roundOf(0));
        Checks.is("16 the other one not", 0, () -> x.roundOf(3));
        letter(x, 1, 4, 0, 1, 0, 0);
        letter(x, 2, 4, 0, 2, 0, 0);
        Checks.is("16 GO", 4, () -> x.deliver(2));
        Checks.is("16 2 goes on", 1, () -> x.roundOf(2));
        Checks.is("16 what is left", 4, () -> x.deliverAll(1, 0, 2000));
        Checks.is("16 all", 1, () -> x.roundOf(4));
        Checks.is("16 others", 14, () -> x.count(2));
    }

    private static void promise16LateLetters() {
        LockstepNet x = path(2);
        words(x, "(15 4 2) (17 1) (2 0 0 1) (19 2) (15 4 1) (18 2)");
        x.prepare(0, 2);
        x.stopAt(2);
        x.deliver(1);
        Checks.is("16 0 is ahead", 1, () -> x.roundOf(0));
        letter(x, 1, 0, 0, 1, 1, 1);
        Checks.is("16 a letter of round 1 to a node in round 0", 0, () -> x.deliver(1));
        Checks.is("16 SAFE", 2, () -> x.deliver(0));
        Checks.is("16 round 1 doesn't use it", 0, () -> x.value(1, 0));
        x.deliverAll(2, 5, 2000);
        Checks.is("16 round 2 does", 1, () -> x.value(1, 0));
    }

    private static LockstepNet star() {
        LockstepNet x = new LockstepNet();
        x.net(4);
        x.link(0, 1);
        x.link(0, 2);
        x.link(0, 3);
        x.builtin(1);
        x.prepare(0, 2);
        x.stopAt(1);
        return x;
    }

    private static void promise17DeliverAll() {
        LockstepNet x = star();
        Checks.fails("17 rule below", ARGUMENT, () -> x.deliverAll(-1, 0, 1));
        Checks.fails("17 rule beyond", ARGUMENT, () -> x.deliverAll(3, 0, 1));
        Checks.fails("17 most below", ARGUMENT, () -> x.deliverAll(0, 0, -1));
        Checks.fails("17 most beyond", ARGUMENT, () -> x.deliverAll(0, 0, 2001));
        Checks.is("17 nothing changed", 6, x::letters);
        Checks.is("17 none", 0, () -> x.deliverAll(0, 0, 0));
        Checks.is("17 the first", 1, () -> x.deliverAll(0, 0, 1));
        letter(x, 0, 2, 0, 2, 0, 0);
        LockstepNet last = star();
        Checks.is("17 the last", 2, () -> last.deliverAll(1, 0, 2));
        letter(last, 3, 2, 1, 0, 0, 0);
        for (int seed : new int[] {0, 1, 77, -1, Integer.MIN_VALUE, Integer.MAX_VALUE}) {
            LockstepNet one = star();
            LockstepNet other = star();
            int drawn = seed;
            int done = 0;
            while (one.letters() > 0) {
                drawn = drawn * 1103515245 + 12345;
                one.deliver(Integer.remainderUnsigned(drawn >>> 16, one.letters()));
                done++;
                int so = done;
                if (so < 8) {
                    LockstepNet some = star();
                    Checks.is("17 by chance, some", so, () -> some.deliverAll(2, seed, so));
                    for (int i = 0; i < one.letters(); i++) {
                        letter(some, i, one.letter(i, 0), one.letter(i, 1), one.letter(i, 2),
                                one.letter(i, 3), one.letter(i, 4));
                    }
                }
            }
            Checks.is("17 by chance", done, () -> other.deliverAll(2, seed, 2000));
        }
        Checks.is("17 the rest", 17, () -> x.deliverAll(0, 0, 2000));
        Checks.is("17 none is left", 0, () -> x.deliverAll(2, 0, 2000));
        x.release();
        Checks.fails("17 argument first", ARGUMENT, () -> x.deliverAll(3, 0, 1));
        Checks.fails("17 without a run", STATE, () -> x.deliverAll(0, 0, 1));
    }

    private static void promise18SwitchTo() {
        LockstepNet x = path(3);
        Checks.fails("18 argument first", ARGUMENT, () -> x.switchTo(3));
        Checks.fails("18 without a run", STATE, () -> x.switchTo(0));
        x.prepare(0, 2);
        Checks.fails("18 below", ARGUMENT, () -> x.switchTo(-1));
        for (int i = 0; i < 8; i++) {
            int way = i % 3;
            Checks.is("18 border", 1, () -> x.switchTo(way));
        }
        Checks.fails("18 8 times", UNSUPPORTED, () -> x.switchTo(2));
        Checks.fails("18 argument ahead of 8", ARGUMENT, () -> x.switchTo(3));
        x.stopAt(2);
        Checks.is("18 round 0 by nodes", 2, () -> x.letter(0, 0));
        x.deliverAll(0, 0, 2000);
        Checks.is("18 round 1 by the latest: the tree", 8, () -> x.count(2));
        x.release();
        Checks.fails("18 argument, then state", STATE, () -> x.switchTo(0));
        x.prepare(0, 2);
        Checks.is("18 8 times for each run", 1, () -> x.switchTo(0));
    }

    private static void promise18SwitchOnTheRun() {
        LockstepNet x = path(3);
        x.prepare(0, 2);
        x.stopAt(3);
        x.deliver(3);
        x.deliver(0);
        Checks.is("18 1 is ahead", 1, () -> x.roundOf(1));
        Checks.is("18 border above it", 2, () -> x.switchTo(1));
        x.deliverAll(0, 0, 2000);
        Checks.is("18 nodes, nodes, tree", 12, () -> x.count(2));
        Checks.is("18 border", 4, () -> x.switchTo(2));
        x.stopAt(4);
        x.deliverAll(1, 0, 2000);
        Checks.is("18 round 3 by the tree still", 16, () -> x.count(2));
        x.stopAt(5);
        letter(x, 0, 3, 1, 0, 4, 0);
        letter(x, 1, 6, 2, 1, 4, 0);
        x.deliverAll(1, 0, 2000);
        Checks.is("18 round 4 by clusters", 22, () -> x.count(2));
        Checks.is("18 all", 5, () -> x.roundOf(0));
    }

    private static void promise19RoundOf() {
        LockstepNet x = path(2);
        Checks.fails("19 no node", ELEMENT, () -> x.roundOf(2));
        Checks.fails("19 without a run", STATE, () -> x.roundOf(1));
        x.prepare(0, 2);
        Checks.fails("19 below", ELEMENT, () -> x.roundOf(-1));
        Checks.fails("19 beyond", ELEMENT, () -> x.roundOf(2));
        Checks.is("19 round 0", 0, () -> x.roundOf(1));
        x.stopAt(3);
        x.deliver(0);
        Checks.is("19 1", 1, () -> x.roundOf(1));
        Checks.is("19 0", 0, () -> x.roundOf(0));
    }

    private static void promise20Value() {
        LockstepNet x = path(2);
        words(x, "(0 0 1) (2 7 7 0)");
        Checks.fails("20 no node", ELEMENT, () -> x.value(2, 8));
        Checks.fails("20 register ahead of state", INDEX, () -> x.value(1, 8));
        Checks.fails("20 without a run", STATE, () -> x.value(1, 7));
        x.input(1, 7, 40);
        x.prepare(0, 2);
        Checks.fails("20 below", ELEMENT, () -> x.value(-1, 0));
        Checks.fails("20 register", INDEX, () -> x.value(1, -1));
        Checks.fails("20 register beyond", INDEX, () -> x.value(1, 8));
        Checks.is("20 the input", 40, () -> x.value(1, 7));
        x.stopAt(1);
        x.deliver(0);
        Checks.is("20 behind round 1", 41, () -> x.value(1, 7));
        Checks.is("20 0 is not there yet", 0, () -> x.value(0, 7));
    }

    private static void places(LockstepNet x, int node, int... want) {
        for (int what = 0; what < 6; what++) {
            int part = what;
            Checks.is("21 place " + node + ", " + what, want[what], () -> x.place(node, part));
        }
    }

    private static void promise21Place() {
        LockstepNet x = new LockstepNet();
        x.net(7);
        Checks.fails("21 no node", ELEMENT, () -> x.place(7, 6));
        Checks.fails("21 what ahead of state", INDEX, () -> x.place(6, 6));
        Checks.fails("21 without a run", STATE, () -> x.place(6, 5));
        x.link(5, 0);
        x.link(0, 3);
        x.link(4, 5);
        x.link(3, 4);
        x.link(4, 1);
        x.link(1, 2);
        x.link(2, 6);
        x.link(6, 1);
        x.link(6, 5);
        Checks.is("21 clusters", 2, () -> x.prepare(0, 2));
        places(x, 0, -1, 0, 0, -1, 0, 0);
        places(x, 1, 4, 3, 1, -1, 0, 0);
        places(x, 2, 6, 3, 1, 1, 1, 0);
        places(x, 3, 0, 1, 0, 0, 1, 0);
        places(x, 4, 3, 2, 1, 1, 1, 1);
        places(x, 5, 0, 1, 0, 0, 1, 1);
        places(x, 6, 5, 2, 1, 1, 1, 0);
        Checks.fails("21 below", INDEX, () -> x.place(0, -1));
        Checks.fails("21 beyond", INDEX, () -> x.place(0, 6));
        Checks.fails("21 node below", ELEMENT, () -> x.place(-1, 0));
        LockstepNet deep = new LockstepNet();
        deep.net(8);
        int[] ends = {0, 7, 0, 5, 7, 1, 7, 2, 5, 1, 5, 3, 5, 4, 4, 7, 1, 6};
        for (int i = 0; i < ends.length; i += 2) {
            deep.link(ends[i], ends[i + 1]);
        }
        deep.prepare(2, 2);
        places(deep, 1, 5, 2, 0, 5, 2, 1);
        places(deep, 2, 7, 2, 0, 7, 2, 0);
        places(deep, 4, 5, 2, 0, 5, 2, 0);
        places(deep, 6, 1, 3, 1, -1, 0, 1);
        deep.release();
        deep.prepare(2, 3);
        places(deep, 1, 5, 2, 1, -1, 0, 2);
        places(deep, 5, 0, 1, 0, 0, 1, 2);
    }

    private static void promise22Chosen() {
        LockstepNet x = ring(6);
        Checks.fails("22 without a run", INDEX, () -> x.chosen(0, 0));
        x.prepare(0, 2);
        Checks.is("22 0 1", 1, () -> x.chosen(0, 1));
        Checks.is("22 1 0", 1, () -> x.chosen(1, 0));
        Checks.is("22 1 2", 3, () -> x.chosen(1, 2));
        Checks.is("22 0 2", 4, () -> x.chosen(0, 2));
        Checks.is("22 itself", -1, () -> x.chosen(2, 2));
        Checks.fails("22 below", INDEX, () -> x.chosen(-1, 0));
        Checks.fails("22 d below", INDEX, () -> x.chosen(0, -1));
        Checks.fails("22 beyond", INDEX, () -> x.chosen(3, 0));
        Checks.fails("22 d beyond", INDEX, () -> x.chosen(0, 3));
        x.release();
        x.prepare(0, 8);
        Checks.is("22 far apart", -1, () -> x.chosen(0, 3));
        Checks.is("22 next to each other", 5, () -> x.chosen(5, 0));
        LockstepNet y = new LockstepNet();
        y.net(4);
        y.link(0, 1);
        y.link(3, 1);
        y.link(2, 0);
        y.link(2, 3);
        y.prepare(0, 3);
        Checks.is("22 the least number", 1, () -> y.chosen(0, 1));
        y.release();
        y.net(4);
        y.link(1, 3);
        y.link(0, 1);
        y.link(2, 0);
        y.link(3, 2);
        y.prepare(0, 3);
        Checks.is("22 link 0", 0, () -> y.chosen(0, 1));
        y.release();
        y.prepare(0, 8);
        Checks.is("22 two of node 0", 2, () -> y.place(0, 5));
        Checks.is("22 two of node 2", 2, () -> y.place(2, 5));
        Checks.is("22 two of node 3", 2, () -> y.place(3, 5));
        Checks.is("22 none between 0 and 3", -1, () -> y.chosen(0, 3));
        LockstepNet hub = new LockstepNet();
        hub.net(4);
        hub.link(1, 0);
        hub.link(2, 0);
        hub.link(3, 0);
        hub.prepare(2, 8);
        Checks.is("22 three", 3, () -> hub.place(0, 5));
    }

    private static void promise23Count() {
        LockstepNet x = ring(6);
        Checks.fails("23 without a run", INDEX, () -> x.count(4));
        x.builtin(1);
        x.prepare(0, 2);
        Checks.fails("23 below", INDEX, () -> x.count(-1));
        Checks.fails("23 beyond", INDEX, () -> x.count(7));
        int[] first = {0, 0, 0, 0, 12, 10, 18};
        int[] then = {24, 24, 24, 2, 12, 10, 18};
        for (int what = 0; what < 7; what++) {
            int which = what;
            Checks.is("23 at first " + what, first[what], () -> x.count(which));
        }
        x.stopAt(2);
        Checks.is("23 sent, not delivered", 12, () -> x.count(2));
        x.deliverAll(1, 0, 2000);
        for (int what = 0; what < 7; what++) {
            int which = what;
            Checks.is("23 then " + what, then[what], () -> x.count(which));
        }
        x.release();
        Checks.fails("23 over", INDEX, () -> x.count(0));
        x.prepare(2, 8);
        Checks.is("23 each its own cluster", 12, () -> x.count(6));
    }

    /** Full nets to the end of 300 rounds, by each way and rule: as the plain run. */
    private static void longRuns() {
        LockstepNet x = new LockstepNet();
        x.net(24);
        for (int i = 0; i < 23; i++) {
            x.link(i, i + 1);
        }
        for (int i = 23; i < 60; i++) {
            int a = i * 7 % 24;
            for (int b = 0; b < 24; b++) {
                int other = (b * 5 + i) % 24;
                if (Checks.answer(() -> x.link(a, other)).length() <= 2) {
                    break;
                }
            }
        }
        x.builtin(2);
        for (int i = 0; i < 24; i += 2) {
            x.input(i, 0, 1);
        }
        x.lockstep(300);
        int[] others = new int[3];
        for (int rule = 0; rule < 3; rule++) {
            for (int way = 0; way < 3; way++) {
                x.prepare(way, 2);
                others[way] = x.count(4 + way);
                x.stopAt(300);
                for (int i = 0; i < 200 && x.letters() > 0; i++) {
                    x.deliverAll(rule, 99, 2000);
                }
                String run = "way " + way + ", rule " + rule;
                Checks.due(run + " links", 120, x.count(4));
                Checks.due(run + " letters", 300 * 120, x.count(0));
                Checks.due(run + " receipts", 300 * 120, x.count(1));
                Checks.due(run + " others", 300 * others[way], x.count(2));
                for (int node = 0; node < 24; node++) {
                    Checks.due(run + " round", 300, x.roundOf(node));
                    for (int r = 0; r < 8; r++) {
                        Checks.due(run + " as plain", x.plain(node, r), x.value(node, r));
                    }
                }
                x.release();
            }
        }
    }
}
