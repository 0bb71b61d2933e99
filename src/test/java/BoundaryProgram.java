import java.util.ArrayList;
import java.util.List;

/** Boundary cases of promises 4 to 7: words, built-in programs, cutting, and which words are wrong. */
final class BoundaryProgram {
    private static final String[] BUILT_IN = {"LAYERS", "LEAST", "CELLS", "WALKS", "COLOURS"};
    private static final int[] SIZES = {15, 7, 17, 11, 32};

    private BoundaryProgram() {
    }

    static void all() {
        promise4Places();
        promise4Refused();
        promise4Full();
        promise5Sizes();
        promise5Words();
        promise5Refused();
        promise6Cuts();
        promise6Refused();
        promise7First();
        promise7Op();
        promise7Registers();
        promise7BelowOne();
        promise7BeyondTheEnd();
        promise7BeyondTheEach();
        promise7IntoAnEach();
        promise7EachWithinEach();
        promise7WithinNone();
    }

    private static void says(int promise, String sentence, String name, String script) {
        BoundaryTest.says(promise, sentence, name, script);
    }

    private static void promise4Places() {
        String sentence = "Word i of the program, in the place of one that there is, or behind all:"
                + " how many there are.";
        says(4, sentence, "the first of all", "word 0 0 0 0 0 = 1; word 1 0 0 0 0 = 2");
        says(4, sentence, "in the place of the first and of the last", """
            words (0 0 1) (0 1 2) (0 2 3); word 0 0 0 7 0 = 3; word 2 0 2 9 0 = 3
            net 1; lockstep 1; plain 0 0 = 7; plain 0 1 = 2; plain 0 2 = 9
            """);
        says(4, sentence, "behind all", """
            words (0 0 1); word 1 0 1 4 0 = 2; net 1; lockstep 1; plain 0 0 = 1; plain 0 1 = 4
            """);
        says(4, sentence, "wrong ones and any numbers are taken", """
            word 0 MIN MAX MIN MAX = 1; word 1 MAX -1 -1 -1 = 2; check = 0
            word 0 0 0 MIN MAX = 2; check = 1; word 1 20 7 MAX MIN = 2; check = -1
            net 1; lockstep 1; plain 0 0 = MIN
            """);
        says(4, "A PROGRAM is WORDS 0, 1, .. (64 at most), one for all nodes, each with an OP,"
                + " r, a, b.",
                "all 64 are done, by the first node and the last", """
            net 24; word 0 0 1 1 0 = 1; fill 1 63; word 63 2 7 7 1 = 64; lockstep 2
            plain 0 7 = 2; plain 23 7 = 2; plain 23 1 = 1
            """);
        says(4, "The words are done one behind the other:", "from the first to the last", """
            net 1; words (0 0 3) (0 1 4) (4 0 0 1) (3 0 0 1) (0 1 5); lockstep 1
            plain 0 0 = 8; plain 0 1 = 5
            """);
    }

    private static void promise4Refused() {
        String argument = "IllegalArgumentException when i is not 0 .. how many there are";
        says(4, argument, "below 0", """
            word -1 0 0 0 0 ! Argument; word MIN 0 0 0 0 ! Argument; word 0 0 0 0 0 = 1
            word -1 0 0 0 0 ! Argument
            """);
        says(4, argument, "above how many there are", """
            word 1 0 0 0 0 ! Argument; word 0 0 0 0 0 = 1; word 2 0 0 0 0 ! Argument
            word MAX 0 0 0 0 ! Argument; word 1 0 0 0 0 = 2; word 3 0 0 0 0 ! Argument
            """);
        says(4, argument, "behind cutting", """
            fill 0 3; cutAt 1; word 2 0 0 0 0 ! Argument; word 1 0 0 0 0 = 2
            """);
        says(4, "IllegalStateException", "with a run", """
            net 1; words (0 0 1); prepare 0 2; word 0 0 0 2 0 ! State; word 1 0 0 2 0 ! State
            release; lockstep 1; plain 0 0 = 1; word 1 0 0 2 0 = 2
            """);
        says(4, argument + "; IllegalStateException", "the first of both", """
            net 1; words (0 0 1); prepare 0 2; word -1 0 0 2 0 ! Argument; word 2 0 0 2 0 ! Argument
            """);
    }

    private static void promise4Full() {
        String sentence = "UnsupportedOperationException when there are 64, and this would be"
                + " another one.";
        says(4, sentence, "the 64th is taken, the 65th is not", """
            fill 0 63; word 63 0 0 0 0 = 64; word 64 0 0 0 0 ! Unsupported
            word 64 0 0 0 0 ! Unsupported
            """);
        says(4, sentence, "in the place of one of 64", """
            fill 0 64; word 63 0 0 5 0 = 64; word 0 0 1 6 0 = 64; net 1; lockstep 1
            plain 0 0 = 5; plain 0 1 = 6
            """);
        says(4, sentence, "behind 65 it is the argument", """
            fill 0 64; word 65 0 0 0 0 ! Argument; word -1 0 0 0 0 ! Argument
            """);
        says(4, sentence, "with a run it is the state", """
            net 1; fill 0 64; prepare 0 2; word 64 0 0 0 0 ! State
            """);
        says(4, sentence, "there is room again behind cutting", """
            fill 0 64; cutAt 63; word 63 0 0 0 0 = 64
            """);
    }

    private static void promise5Sizes() {
        String sentence = "The program is a built-in one: how many words it has.";
        for (int k = 0; k < 5; k++) {
            int size = SIZES[k];
            says(5, sentence, BUILT_IN[k], "builtin " + k + " = " + size + "; check = -1; cutAt " + (size + 1)
                    + " ! Argument; word " + (size + 1) + " 0 0 0 0 ! Argument; cutAt " + size);
        }
        says(5, sentence, "in the place of 64 words", """
            fill 0 64; builtin 1 = 7; cutAt 8 ! Argument; word 7 0 0 0 0 = 8; check = -1
            """);
        says(5, sentence, "in the place of a wrong program", """
            word 0 99 0 0 0 = 1; builtin 0 = 15; check = -1
            """);
        says(5, sentence, "its words can be set and cut", """
            builtin 1 = 7; word 6 0 0 0 0 = 7; word 0 99 0 0 0 = 7; check = 0; builtin 1 = 7
            check = -1
            cutAt 4; check = 0
            """);
    }

    /** Due are the answers of the second writing, whose words are those that are quoted here. */
    private static void promise5Words() {
        says(5, "BUILT-IN programs (words as op r a b, 0 where nothing is said):",
                "a of (0 3) is 0", "net 1; builtin 4; input 0 3 5; lockstep 1; plain 0 3 = 0");
        String net = "net 7; link 0 1; link 1 2; link 2 3; link 3 1; link 4 3; link 5 4; link 0"
                + " 5; ";
        String[] inputs = {
            "input 0 0 1; input 6 0 1",
            "input 2 0 1; input 4 0 2; input 5 1 -7; input 6 1 3",
            "input 0 0 1; input 1 0 1; input 3 0 1; input 5 0 1; input 2 1 2; input 0 7 5; input 4 5 9",
            "input 0 0 -3; input 1 0 MAX; input 2 0 MIN; input 3 1 1; input 4 1 2; input 5 7 -1",
        };
        for (int k = 0; k < 5; k++) {
            String sentence = k + " " + BUILT_IN[k] + ": " + Model.BUILT_IN[k] + ".";
            for (String input : inputs) {
                String begin = net + "builtin " + k + "; " + input + "; ";
                says(5, sentence, "plain runs, a node without ports, " + input, begin + plainRuns());
                says(5, sentence, "the letters of a run, " + input, withLetters(begin + "link 6 5; "));
            }
            String ports = "net 7; link 0 6; link 0 5; link 0 4; link 0 1; link 2 6; link 2 0;"
                    + " link 3 5;"
                    + " link 3 6; link 3 1; link 4 1; link 6 1; builtin " + k + "; input 0 0 1; ";
            says(5, sentence, "many ports, those of the least nodes last", ports + plainRuns());
        }
    }

    private static String plainRuns() {
        String script = "";
        for (int rounds : new int[] {1, 2, 3, 4, 7, 12}) {
            script += "lockstep " + rounds + "; ";
            for (int node = 0; node < 7; node++) {
                for (int r = 0; r < 8; r++) {
                    script += "plain " + node + " " + r + "; ";
                }
            }
        }
        return script;
    }

    /** Behind the 16 SAFE of a round the letters of the program are those under way. */
    private static String withLetters(String begin) {
        String script = begin + "prepare 0 2; ";
        for (int round = 1; round <= 4; round++) {
            script += "stopAt " + round + "; deliverAll 0 0 16 = 16; ";
            List<String> row = new ArrayList<>();
            for (Model.Letter l : Script.modelAfter(script).underWay) {
                row.add(l.kind() + " " + l.from() + " " + l.to() + " " + l.round() + " " + l.value());
            }
            script += "row " + String.join(" | ", row) + "; deliverAll 0 0 2000; ";
        }
        return script;
    }

    private static void promise5Refused() {
        String argument = "IllegalArgumentException when k is not 0 .. 4";
        says(5, argument, "below 0", """
            builtin -1 ! Argument; builtin MIN ! Argument; check = -1; cutAt 1 ! Argument
            """);
        says(5, argument, "above 4", """
            builtin 5 ! Argument; builtin MAX ! Argument; check = -1; cutAt 1 ! Argument
            """);
        says(5, argument, "with a program", """
            builtin 4 = 32; builtin 5 ! Argument; builtin -1 ! Argument; cutAt 32
            """);
        says(5, "IllegalStateException.", "with a run", """
            net 1; words (0 0 1); prepare 0 2; builtin 0 ! State; builtin 4 ! State
            release; cutAt 2 ! Argument; lockstep 1; plain 0 0 = 1
            """);
        says(5, argument + "; IllegalStateException.", "the first of both", """
            net 1; prepare 0 2; builtin -1 ! Argument; builtin 5 ! Argument
            """);
    }

    private static void promise6Cuts() {
        String sentence = "The program has only its first n words.";
        says(6, sentence, "all but one", """
            net 1; words (0 0 1) (0 1 2) (0 2 3); cutAt 2; lockstep 1
            plain 0 0 = 1; plain 0 1 = 2; plain 0 2 = 0; cutAt 3 ! Argument; word 2 0 3 4 0 = 3
            """);
        says(6, sentence, "none", """
            net 1; words (0 0 1) (0 9 2); check = 1; cutAt 0; check = -1; lockstep 1; plain 0 0 = 0
            cutAt 1 ! Argument; cutAt 0; word 1 0 0 0 0 ! Argument; word 0 0 0 0 0 = 1
            """);
        says(6, sentence, "all", """
            net 1; words (0 0 1) (0 1 2); cutAt 2; lockstep 1; plain 0 1 = 2; word 2 0 0 0 0 = 3
            """);
        says(6, sentence, "all of 64", """
            fill 0 64; cutAt 64; word 64 0 0 0 0 ! Unsupported; cutAt 63; cutAt 64 ! Argument
            """);
        says(6, sentence, "within the words of an EACH", """
            words (15 0 2) (16 1) (16 2); check = -1; cutAt 2; check = 0; cutAt 1; check = 0
            """);
        says(6, sentence, "what was cut does not come back", """
            net 1; words (0 0 1) (0 1 2); cutAt 0; word 0 0 2 3 0 = 1; lockstep 1
            plain 0 0 = 0; plain 0 1 = 0; plain 0 2 = 3; cutAt 2 ! Argument
            """);
    }

    private static void promise6Refused() {
        String argument = "IllegalArgumentException when n is not 0 .. how many it has";
        says(6, argument, "below 0", """
            fill 0 3; cutAt -1 ! Argument; cutAt MIN ! Argument; word 3 0 0 0 0 = 4
            """);
        says(6, argument, "above how many it has", """
            cutAt 1 ! Argument; fill 0 3; cutAt 4 ! Argument; cutAt MAX ! Argument; cutAt 3
            """);
        says(6, argument, "above 64", "fill 0 64; cutAt 65 ! Argument; cutAt 64");
        says(6, "IllegalStateException.", "with a run", """
            net 1; words (0 0 1) (0 1 2); prepare 0 2; cutAt 0 ! State; cutAt 1 ! State
            cutAt 2 ! State
            stopAt 1; value 0 1 = 2; release; cutAt 1; lockstep 1; plain 0 1 = 0
            """);
        says(6, argument + "; IllegalStateException.", "the first of both", """
            net 1; fill 0 2; prepare 0 2; cutAt -1 ! Argument; cutAt 3 ! Argument
            """);
    }

    private static void wrong(String sentence, String name, int due, String words) {
        says(7, sentence, name + ": " + words, "words " + words + "; check = " + due);
    }

    private static void promise7First() {
        String sentence = "The first WRONG word of the program; -1 when none is.";
        says(7, sentence, "without words", "check = -1");
        says(7, sentence, "one right word", "word 0 0 0 0 0 = 1; check = -1");
        says(7, sentence, "the last of 64", "fill 0 63; word 63 22 0 0 0 = 64; check = 63");
        says(7, sentence, "none of 64", "fill 0 64; check = -1");
        wrong(sentence, "the first of three", 0, "(0 8) (0 8) (0 8)");
        wrong(sentence, "the first of two", 1, "(0 0) (0 8) (0 0) (99 0)");
        says(7, sentence, "also with a run, where none is", """
            net 1; builtin 4 = 32; prepare 0 2; check = -1
            """);
        says(7, sentence, "it goes when the word is mended", """
            words (0 0) (0 8) (0 9); check = 1; word 1 0 7 0 0 = 3; check = 2; word 2 0 7 0 0 = 3
            check = -1
            """);
    }

    private static void promise7Op() {
        String sentence = "A word is WRONG: if its op is none of these,";
        wrong(sentence, "just below", 0, "(-1 0)");
        wrong(sentence, "just above", 0, "(22 0)");
        wrong(sentence, "the least", 0, "(MIN 0)");
        wrong(sentence, "the greatest", 0, "(MAX 0)");
        wrong(sentence, "the first of these", -1, "(0 0)");
        wrong(sentence, "the last of these", -1, "(21 0)");
        wrong(sentence, "within an EACH too", 1, "(15 0 1) (22 0)");
    }

    private static void promise7Registers() {
        String r = "r is not 0 .. 7,";
        String used = "or a register a or b that it uses is not;";
        for (int op = 0; op <= 21; op++) {
            boolean inEach = op >= 16 && op <= 18;
            boolean reaches = op == 14 || op == 15;
            String before = inEach ? "(15 0 1) (" + op + " " : "(" + op + " ";
            String behind = reaches ? ") (0 0)" : ")";
            String a = reaches ? " 1" : " 7";
            int at = inEach ? 1 : 0;
            for (String taken : new String[] {"0", "7"}) {
                wrong(r, "the least and the greatest", -1, before + taken + a + " 7" + behind);
            }
            for (String beyond : new String[] {"-1", "8", "MIN", "MAX"}) {
                wrong(r, "beyond", at, before + beyond + a + " 7" + behind);
                boolean usesA = op >= 1 && op <= 13;
                boolean usesB = op >= 2 && op <= 11;
                if (!reaches) {
                    wrong(used, usesA ? "a" : "a is none", usesA ? at : -1, before + "0 " + beyond + " 0)");
                }
                wrong(used, usesB ? "b" : "b is none", usesB ? at : -1,
                        before + "0" + a + " " + beyond + behind);
            }
            wrong(used, "the least", -1, before + "0" + (reaches ? " 1" : " 0") + " 0" + behind);
        }
    }

    private static void promise7BelowOne() {
        String sentence = "if a of SKIP or EACH is below 1,";
        for (String op : new String[] {"14", "15"}) {
            wrong(sentence, "0", 0, "(" + op + " 0 0) (0 0)");
            wrong(sentence, "-1", 0, "(" + op + " 0 -1) (0 0)");
            wrong(sentence, "the least", 0, "(" + op + " 0 MIN) (0 0)");
            wrong(sentence, "1", -1, "(" + op + " 0 1) (0 0)");
            wrong(sentence, "behind other words", 2, "(0 0) (0 0) (" + op + " 0 -1) (0 0)");
        }
        wrong(sentence, "a SKIP within an EACH", 1, "(15 0 2) (14 0 0) (0 0)");
        wrong(sentence, "a SKIP within an EACH", 1, "(15 0 2) (14 0 MIN) (0 0)");
    }

    private static void promise7BeyondTheEnd() {
        String sentence = "or these words would go beyond the program's end,";
        for (String op : new String[] {"14", "15"}) {
            wrong(sentence, "the only word", 0, "(" + op + " 0 1)");
            wrong(sentence, "just up to the end", -1, "(" + op + " 0 2) (0 0) (0 0)");
            wrong(sentence, "one beyond", 0, "(" + op + " 0 3) (0 0) (0 0)");
            wrong(sentence, "the greatest", 0, "(" + op + " 0 MAX) (0 0) (0 0)");
            wrong(sentence, "one less than the greatest", 1, "(0 0) (" + op + " 0 2147483646) (0 0)");
            wrong(sentence, "the last word", 2, "(0 0) (0 0) (" + op + " 0 1)");
            says(7, sentence, "up to the last of 64, then one beyond", "word 0 " + op + " 0 63 0 = 1; fill 1 64;"
                    + " check = -1; word 0 " + op + " 0 64 0 = 64; check = 0; cutAt 63; check = 0");
            says(7, sentence, "in the last of 64", "fill 0 63; word 63 " + op + " 0 1 0 = 64; check = 63");
        }
    }

    private static void promise7BeyondTheEach() {
        String sentence = "or beyond the words of the EACH in which it is;";
        wrong(sentence, "just up to its last word", -1, "(15 0 3) (14 0 2) (0 0) (0 0) (0 0)");
        wrong(sentence, "one beyond", 1, "(15 0 3) (14 0 3) (0 0) (0 0) (0 0)");
        wrong(sentence, "from its last word", 2, "(15 0 2) (0 0) (14 0 1) (0 0)");
        wrong(sentence, "from its only word", 1, "(15 0 1) (14 0 1) (0 0)");
        wrong(sentence, "the greatest", 1, "(15 0 2) (14 0 MAX) (0 0) (0 0)");
        wrong(sentence, "from right behind its last word", -1, "(15 0 1) (0 0) (14 0 1) (0 0)");
        wrong(sentence, "its words and the program end there", -1, "(15 0 2) (14 0 1) (0 0)");
    }

    private static void promise7IntoAnEach() {
        String sentence = "a SKIP, in none, behind whose words it would go on in the midst of"
                + " those of an EACH;";
        wrong(sentence, "at its first word", 0, "(14 0 1) (15 0 3) (0 0) (0 0) (0 0)");
        wrong(sentence, "at its second word", 0, "(14 0 2) (15 0 3) (0 0) (0 0) (0 0)");
        wrong(sentence, "at its last word", 0, "(14 0 3) (15 0 3) (0 0) (0 0) (0 0)");
        wrong(sentence, "right behind its last word", -1, "(14 0 4) (15 0 3) (0 0) (0 0) (0 0) (0 0)");
        wrong(sentence, "right behind its last word, at the end", -1, "(14 0 4) (15 0 3) (0 0) (0 0) (0 0)");
        wrong(sentence, "at the EACH itself", -1, "(14 0 1) (0 0) (15 0 1) (0 0)");
        wrong(sentence, "at the only word", 0, "(14 0 1) (15 0 1) (0 0)");
        wrong(sentence, "over one EACH into another", 0, "(14 0 3) (15 0 1) (0 0) (15 0 1) (0 0)");
        wrong(sentence, "over two", -1, "(14 0 4) (15 0 1) (0 0) (15 0 1) (0 0)");
        wrong(sentence, "from between two", 2, "(15 0 1) (0 0) (14 0 1) (15 0 1) (0 0)");
        wrong(sentence, "a SKIP in an EACH goes on behind it", -1, "(15 0 2) (14 0 1) (0 0) (15 0 1) (0 0)");
        wrong(sentence, "where the program has ended", 0, "(14 0 1) (15 0 1)");
        wrong(sentence, "where the program has ended, of the greatest", 0, "(14 0 1) (15 0 MAX)");
        wrong(sentence, "of an EACH that is wrong by r", 0, "(14 0 1) (15 8 1) (0 0)");
        wrong(sentence, "behind an EACH that is wrong by r", 1, "(14 0 2) (15 8 1) (0 0)");
        wrong(sentence, "of an EACH within an EACH", 0, "(14 0 3) (15 0 2) (15 0 2) (0 0) (0 0)");
        wrong(sentence, "an EACH with 0 words has no midst", 1, "(14 0 1) (15 0 0) (0 0)");
        wrong(sentence, "an EACH with less than 0 words has none", 1, "(14 0 1) (15 0 MIN) (0 0)");
        says(7, sentence, "the first of 64 words over 62 to the last", """
            word 0 14 0 62 0 = 1; word 1 15 0 62 0 = 2; fill 2 64; check = 0; word 1 15 0 61 0 = 64
            check = -1
            """);
    }

    private static void promise7EachWithinEach() {
        String sentence = "an EACH within an EACH;";
        wrong(sentence, "its first word", 1, "(15 0 2) (15 1 1) (0 0)");
        wrong(sentence, "its last word", 2, "(15 0 2) (0 0) (15 1 1) (0 0)");
        wrong(sentence, "right behind its last word", -1, "(15 0 2) (0 0) (0 0) (15 1 1) (0 0)");
    }

    private static void promise7WithinNone() {
        String sentence = "16, 17, 18 that are within none.";
        for (int op = 16; op <= 18; op++) {
            String word = "(" + op + " 0)";
            wrong(sentence, "alone", 0, word);
            wrong(sentence, "right ahead of an EACH", 0, word + " (15 0 1) (0 0)");
            wrong(sentence, "the first and the last word of an EACH", -1, "(15 0 2) " + word + " " + word);
            wrong(sentence, "right behind the last word", 3, "(15 0 2) " + word + " " + word + " " + word);
            wrong(sentence, "within a SKIP's words", 1, "(14 0 1) " + word);
        }
    }
}
