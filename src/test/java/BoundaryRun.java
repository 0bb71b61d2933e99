import java.util.ArrayList;
import java.util.List;

/** Boundary cases of promises 11 to 15 and 17: preparing, release, STOP, the letters under way. */
final class BoundaryRun {
    private BoundaryRun() {
    }

    static void all() {
        parts();
        promise11Taken();
        promise11Anew();
        promise11Argument();
        promise11State();
        promise12Over();
        promise12Refused();
        promise13Becomes();
        promise13Refused();
        promise13ByNumbers();
        promise14Letters();
        promise15Parts();
        promise15Row();
        promise15Refused();
        promise17Most();
        promise17Rules();
        promise17Refused();
    }

    private static void says(int promise, String sentence, String name, String script) {
        BoundaryTest.says(promise, sentence, name, script);
    }

    private static void parts() {
        says(11, "Ahead of the calls `net`, `link`, `word`, `builtin`, `cutAt`, `check`,"
                + " `input`, `lockstep`,"
                + " `plain`, `prepare` the interface says: first part: while no run is prepared.",
                "with a run each that names it throws, the others answer", """
            path 2; words (0 0 4); prepare 0 2
            net 1 ! State; link 0 1 ! State; word 0 0 0 5 0 ! State; builtin 0 ! State
            cutAt 0 ! State
            input 0 0 1 ! State; prepare 0 2 ! State; check = -1; lockstep 1; plains 0 4 4
            """);
        says(12, "Ahead of the calls `release`, `stopAt`, `letters`, `letter`, `deliver`,"
                + " `deliverAll`,"
                + " `switchTo`, `roundOf`, `value`, `place`, `chosen`, `count` the interface says:"
                + " second part: with a run.", "without a run each throws, but for letters", """
            path 2
            release ! State; stopAt 0 ! State; letters = 0; letter 0 0 ! Index; deliver 0 ! Index
            deliverAll 0 0 0 ! State; switchTo 0 ! State; roundOf 0 ! State; value 0 0 ! State
            place 0 0 ! State; chosen 0 0 ! Index; count 0 ! Index
            """);
        says(12, "IllegalStateException, where nothing else is said: a run is prepared (first"
                + " part),"
                + " or none (second part).", "it changes with preparing and release", """
            path 2; release ! State; input 0 0 1; prepare 0 2; input 0 0 2 ! State; roundOf 0 = 0
            release
            input 0 0 3; roundOf 0 ! State; prepare 0 2; value 0 0 = 3
            """);
        says(11, "where several exceptions that a call names fit, it is the one that it names"
                + " first.",
                "all that a first-part call names fit", """
            net 24; pairs 60; fill 0 64; prepare 0 2
            net 25 ! Argument; link 24 24 ! Element; link 0 0 ! Argument; link 0 1 ! State
            word 65 0 0 0 0 ! Argument; word 64 0 0 0 0 ! State; builtin 5 ! Argument
            cutAt 65 ! Argument
            input 24 8 0 ! Element; input 23 8 0 ! Index; plain 24 8 ! Element
            prepare 3 9 ! Argument
            """);
        says(12, "where several exceptions that a call names fit, it is the one that it names"
                + " first.",
                "all that a second-part call names fit", """
            net 2; stopAt 501 ! State; stopAt -1 ! State; deliverAll 3 0 2001 ! Argument
            switchTo 3 ! Argument
            roundOf 2 ! Element; value 2 8 ! Element; value 1 8 ! Index; place 2 6 ! Element
            place 1 6 ! Index
            """);
        says(11, "A call that throws changes nothing;",
                "on a net with a program and a plain run", """
            path 3; builtin 1; input 2 0 -4; lockstep 2
            net 0 ! Argument; link 0 1 ! State; link 1 1 ! Argument; link 3 0 ! Element
            word 8 0 0 0 0 ! Argument
            builtin 5 ! Argument; cutAt 8 ! Argument; input 0 8 1 ! Index; input 3 0 1 ! Element
            lockstep 301 ! Argument; prepare 3 2 ! Argument; prepare 0 9 ! Argument; release ! State
            stopAt 1 ! State; switchTo 1 ! State; deliverAll 0 0 1 ! State; deliver 0 ! Index
            """);
        says(12, "A call that throws changes nothing;",
                "in the midst of a run, 8 switches behind it", """
            path 3; builtin 1; input 2 0 -4; prepare 0 2; stopAt 2; deliverAll 0 0 7
            8 x switchTo 2 = 2
            net 1 ! State; link 0 2 ! State; word 0 0 0 0 0 ! State; builtin 0 ! State
            cutAt 0 ! State
            input 0 0 9 ! State; lockstep -1 ! Argument; prepare 1 3 ! State; stopAt 1 ! Argument
            stopAt 501 ! Argument; deliver 99 ! Index; deliver -1 ! Index
            deliverAll 3 0 1 ! Argument
            deliverAll 0 0 2001 ! Argument; switchTo 0 ! Unsupported; switchTo 3 ! Argument
            """);
    }

    private static void promise11Taken() {
        String way = "A run is prepared, with a way 0 .. 2";
        says(11, way, "0", "path 2; prepare 0 2 = 1; stopAt 1; row 2 0 1 0 0 | 2 1 0 0 0");
        says(11, way, "1", "path 2; prepare 1 2 = 1; stopAt 1; row 3 1 0 0 0");
        says(11, way, "2", "net 2; link 0 1; prepare 2 3 = 2; stopAt 1; row 6 0 1 0 0 | 6 1 0 0 0");
        String many = "and clusters for p = 2 .. 8: how many clusters there are.";
        says(11, many, "one node", "net 1; prepare 0 2 = 1; release; prepare 0 8 = 1");
        says(11, many, "the least p: the layer may be as great as the ball", """
            path 2; prepare 0 2 = 1; release; prepare 0 3 = 2; release; path 4; prepare 2 2 = 2
            """);
        says(11, many, "the greatest p: 7 nodes next to one are enough, 6 are not", """
            hub 8; prepare 0 8 = 1; release; hub 7; prepare 0 8 = 7; release; prepare 0 7 = 1
            """);
        says(11, many, "24, the most", """
            path 24; prepare 2 8 = 24; chosen 22 23 = 22; chosen 23 24 ! Index
            """);
        says(11, many, "each way has them", """
            path 3; prepare 0 2 = 2; release; prepare 1 2 = 2; release; prepare 2 2 = 2
            """);
    }

    private static void promise11Anew() {
        String sentence = "A RUN is made by PREPARING: all nodes have done round 0, and STOP is 0.";
        says(11, sentence, "the first run", """
            path 2; builtin 1; input 1 0 5; prepare 0 2; rounds 0 0; values 0 0 5; letters = 0
            counts 0 0 0 0
            stopAt -1 ! Argument; stopAt 0; letters = 0
            """);
        says(11, sentence, "behind a run that was in the midst of its letters", """
            path 2; builtin 1; input 0 0 7; input 1 0 5; prepare 0 2; stopAt 500
            deliverAll 0 0 2000 = 2000; switchTo 1
            release; input 1 0 6; prepare 0 2; rounds 0 0; values 0 7 6; values 2 0 0; letters = 0
            counts 0 0 0 0
            stopAt 0; letters = 0; stopAt 1; row 2 0 1 0 0 | 2 1 0 0 0; deliverAll 0 0 2000 = 6
            rounds 1 1
            stopAt 2; deliverAll 1 0 2000 = 6; values 0 6 6
            """);
        says(11, sentence, "trees, clusters and chosen links are those of this run alone", """
            path 4; prepare 2 2 = 2; release; prepare 2 8 = 4; places 0 -1 0 0 -1 0 1
            places 1 0 1 1 -1 0 2; places 2 1 2 2 -1 0 2; places 3 2 3 3 -1 0 1; count 6 = 6
            stopAt 1
            deliverAll 0 0 99 = 6; rounds 1 1 1 1; release
            hub 4; prepare 2 2 = 1; places 0 -1 0 0 -1 0 0; places 3 0 1 0 0 1 0; count 6 = 12
            stopAt 1
            deliverAll 0 0 99 = 12; rounds 1 1 1 1; release
            prepare 1 2; stopAt 1; deliverAll 0 0 99 = 6; release; path 4; prepare 1 2; stopAt 1
            row 3 3 2 0 0; deliverAll 0 0 99 = 6; rounds 1 1 1 1
            """);
        for (int way = 0; way < 3; way++) {
            for (int delivered = 1; delivered <= 24; delivered++) {
                says(11, sentence, "behind " + delivered + " letters of way " + way, "path 4; builtin 1;"
                        + " prepare " + way + " 2 = 2; stopAt 2; deliverAll 0 0 " + delivered + "; release;"
                        + " prepare " + way + " 2 = 2; stopAt 1; letters; deliverAll 0 0 5 = 5; letters;"
                        + " letter 0 0; letter 0 1; letter 0 2; letter 0 3; deliverAll 1 0 2000;"
                        + " rounds 1 1 1 1;"
                        + " counts 6 6 " + new int[] {6, 6, 10}[way] + "; stopAt 2; deliverAll 0 0 2000;"
                        + " rounds 2 2 2 2; counts 12 12 " + new int[] {12, 12, 20}[way]);
            }
        }
        says(11, sentence, "letters of a released run do not come to the next one", """
            path 2; words (15 4 2) (16 1) (18 0); prepare 0 2; stopAt 1; deliverAll 0 0 4 = 4
            release; prepare 0 2; stopAt 1
            deliver 0; deliver 0; values 1 0 0; counts 2 0 2 1
            """);
    }

    private static void promise11Argument() {
        says(11, "IllegalArgumentException", "the way", """
            path 2; prepare -1 2 ! Argument; prepare 3 2 ! Argument; prepare MIN 2 ! Argument
            prepare MAX 2 ! Argument
            roundOf 0 ! State
            """);
        says(11, "IllegalArgumentException", "p", """
            path 2; prepare 0 1 ! Argument; prepare 0 9 ! Argument; prepare 0 0 ! Argument
            prepare 0 -2 ! Argument
            prepare 0 MIN ! Argument; prepare 0 MAX ! Argument; roundOf 0 ! State
            """);
        says(11, "IllegalArgumentException",
                "ahead of a run, a wrong word, no net, and nodes that are not reached", """
            prepare 3 2 ! Argument; prepare 0 9 ! Argument; net 2; prepare -1 2 ! Argument
            word 0 99 0 0 0
            prepare 0 1 ! Argument; cutAt 0; link 0 1; prepare 0 2; prepare 0 1 ! Argument
            prepare 3 2 ! Argument
            """);
    }

    private static void promise11State() {
        says(11, "IllegalStateException when a run is prepared,", "also with the same way", """
            path 2; prepare 1 3 = 2; prepare 1 3 ! State; prepare 0 2 ! State; stopAt 1
            row 3 1 0 0 0
            place 1 2 = 1; release; prepare 0 2 = 1
            """);
        says(11, "a word is wrong,", "the first or the last of 64; without words none is", """
            net 1; word 0 22 0 0 0; prepare 0 2 ! State; cutAt 0; fill 0 63; word 63 0 8 0 0 = 64
            prepare 0 2 ! State
            letters = 0; roundOf 0 ! State; cutAt 63; prepare 0 2 = 1; release; cutAt 0
            prepare 0 2 = 1
            """);
        String reached = "or not all nodes are reached from node 0";
        says(11, reached, "the last one is not, then it is", """
            net 3; link 0 1; prepare 0 2 ! State; roundOf 0 ! State; link 1 2; prepare 0 2 = 2
            """);
        says(11, reached, "node 0 alone is not", """
            net 3; link 1 2; prepare 0 2 ! State; link 2 0; prepare 0 2 = 2
            """);
        says(11, reached, "two parts", """
            net 4; link 0 1; link 2 3; prepare 0 2 ! State; link 0 2; prepare 0 2
            """);
        says(11, reached, "by 23 links one behind the other, backwards", """
            net 24; link 0 23; link 23 22; link 22 21; link 21 20; link 20 19; link 19 18
            link 18 17; link 17 16
            link 16 15; link 15 14; link 14 13; link 13 12; link 12 11; link 11 10; link 10 9
            link 9 8; link 8 7
            link 7 6; link 6 5; link 5 4; link 4 3; link 3 2; prepare 1 2 ! State; link 2 1
            prepare 1 2; place 1 1 = 23
            """);
        says(11, "(or there is none).", "before a net", """
            prepare 0 2 ! State; prepare 2 8 ! State; letters = 0
            """);
    }

    private static void promise12Over() {
        String sentence = "The run is over.";
        says(12, sentence, "with letters under way", """
            path 2; prepare 0 2; stopAt 1; letters = 2; release; letters = 0; letter 0 0 ! Index
            deliver 0 ! Index
            deliverAll 0 0 1 ! State; stopAt 2 ! State; switchTo 0 ! State; roundOf 0 ! State
            value 0 0 ! State
            place 0 0 ! State; chosen 0 0 ! Index; count 4 ! Index
            """);
        says(12, sentence, "before anything was done", """
            path 2; prepare 0 2; release; net 3; plain 2 0 = 0
            """);
        says(12, sentence, "the net, the program and the inputs stay", """
            path 2; words (0 1 8); input 1 0 5; prepare 0 2; stopAt 1; deliverAll 0 0 2000; release
            link 0 1 ! State
            lockstep 1; plains 0 0 5; plains 1 8 8
            """);
    }

    private static void promise12Refused() {
        says(12, "IllegalStateException.", "none, or none any more", """
            release ! State; path 2; release ! State; prepare 0 2; release; release ! State
            prepare 0 2; release
            """);
    }

    private static void promise13Becomes() {
        String sentence = "STOP becomes a round.";
        says(13, sentence, "0, then 1: nobody leaves round 1", """
            path 2; prepare 0 2; stopAt 0; letters = 0; stopAt 1; letters = 2
            deliverAll 0 0 2000 = 2; rounds 1 1
            letters = 0
            """);
        says(13, sentence, "0: a lone node does nothing, by each way", """
            net 1; prepare 0 2; stopAt 0; rounds 0; release; prepare 1 2; stopAt 0; rounds 0
            release
            prepare 2 2; stopAt 0; rounds 0; release; prepare 2 2; stopAt 2; release; prepare 2 2
            stopAt 0
            rounds 0
            """);
        says(13, sentence, "500, by each way: a lone node goes there at once", """
            net 1; words (0 1 1) (2 0 0 1); prepare 0 2; stopAt 500; rounds 500; value 0 0 = 500
            letters = 0
            release; prepare 1 2; stopAt 500; rounds 500; release; prepare 2 2; stopAt 500
            rounds 500; counts 0 0 0 0
            """);
        says(13, sentence, "the same again changes nothing", """
            path 2; prepare 0 2; stopAt 1; stopAt 1; stopAt 1; row 2 0 1 0 0 | 2 1 0 0 0
            deliverAll 0 0 2000 = 2
            stopAt 1; letters = 0
            """);
        says(13, sentence, "a node that is not safe sends nothing", """
            path 2; builtin 1; prepare 0 2; stopAt 1; deliver 0; deliver 0; letters = 2; stopAt 500
            letters = 2
            """);
    }

    private static void promise13Refused() {
        says(13, "IllegalStateException; IllegalArgumentException when it is above 500",
                "the first of both", """
            stopAt 501 ! State; path 2; stopAt 501 ! State; stopAt -1 ! State; stopAt MIN ! State
            prepare 0 2; release; stopAt 501 ! State
            """);
        says(13, "IllegalStateException", "without a run", """
            path 2; stopAt 0 ! State; stopAt 500 ! State; prepare 0 2; stopAt 0
            """);
        says(13, "IllegalArgumentException when it is above 500", "500 is taken, 501 is not", """
            path 2; prepare 0 2; stopAt 501 ! Argument; stopAt MAX ! Argument; letters = 0
            stopAt 500; stopAt 501 ! Argument
            stopAt 500
            """);
        says(13, "or less than it was.", "below 0 at first, then below what it is", """
            path 2; prepare 0 2; stopAt -1 ! Argument; stopAt MIN ! Argument; stopAt 0; stopAt 7
            stopAt 6 ! Argument
            stopAt 0 ! Argument; stopAt 7; stopAt 8; stopAt 500; stopAt 499 ! Argument
            """);
        says(13, "or less than it was.", "a new run begins at 0", """
            path 2; prepare 0 2; stopAt 500; release; prepare 0 2; stopAt 0; stopAt 1
            stopAt 0 ! Argument
            """);
    }

    private static void promise13ByNumbers() {
        String sentence = "(Then all nodes, by their numbers, do what they can.)";
        says(13, sentence, "SAFE by numbers, then by ports", """
            net 3; link 2 1; link 1 0; prepare 0 2; stopAt 1
            row 2 0 1 0 0 | 2 1 2 0 0 | 2 1 0 0 0 | 2 2 1 0 0
            """);
        says(13, sentence, "READY of the leaves by numbers", """
            net 4; link 3 0; link 2 0; link 1 0; prepare 1 2; stopAt 1
            row 3 1 0 0 0 | 3 2 0 0 0 | 3 3 0 0 0
            """);
        says(13, sentence, "only those that wait at the old STOP", """
            path 3; prepare 0 2; stopAt 1; deliver 3 = 2; deliver 0 = 2; rounds 0 1 0; stopAt 2
            row 2 1 0 0 0 | 2 1 2 0 0 | 2 1 0 1 0 | 2 1 2 1 0
            """);
    }

    private static void promise14Letters() {
        says(14, "How many letters are under way;",
                "none, some, one less behind each that brings none", """
            path 2; prepare 0 2; letters = 0; stopAt 1; letters = 2; deliver 1; letters = 1
            deliver 0; letters = 0
            """);
        says(14, "How many letters are under way;",
                "120 by 60 links, by each way that they can go", """
            net 24; pairs 60; builtin 1; prepare 0 2; stopAt 500; letters = 120
            deliverAll 0 0 120 = 120; letters = 120
            deliverAll 0 0 60 = 60; letters = 120; deliverAll 1 0 2000 = 2000; letters
            deliverAll 2 5 2000 = 2000; letters
            deliverAll 2 6 2000 = 2000; letters; deliverAll 2 7 2000 = 2000; letters
            """);
        says(14, "0 without a run.", "before any, and behind one with letters", """
            letters = 0; path 2; letters = 0; prepare 0 2; stopAt 1; letters = 2; release
            letters = 0
            """);
    }

    private static void promise15Parts() {
        String sentence = "Of letter i (from 0) under way: 0 its kind, 1 from which node, 2 to"
                + " which, 3 the round,"
                + " 4 the value.";
        says(15, sentence, "the first and the last", """
            path 3; prepare 0 2; stopAt 1; letter 0 1 = 0; letter 0 2 = 1; letter 3 1 = 2
            letter 3 2 = 1; letter 3 0 = 2
            """);
        says(15, sentence, "round 500 of a program that sends in it alone", """
            path 2; words (0 1 499) (19 2) (7 3 1 2) (14 3 2) (15 4 1) (18 2); prepare 1 2
            stopAt 500
            deliverAll 0 0 999 = 999; rounds 500 499; row 4 0 1 499 0 | 0 0 1 500 500; deliver 0 = 4
            rounds 500 500
            row 0 0 1 500 500 | 0 1 0 500 500; deliver 1 = 0; row 0 0 1 500 500 | 1 0 1 500 0
            """);
        String value = "Each has a KIND, two nodes, the round of its sender, and a value (0 but"
                + " for kind 0).";
        says(15, value, "the least and the greatest value", """
            path 2; words (15 4 1) (18 0); input 0 0 MIN; input 1 0 MAX; prepare 0 2; stopAt 1
            deliver 0; deliver 0
            row 0 1 0 1 MAX | 0 0 1 1 MIN; deliver 0 = 0; row 0 0 1 1 MIN | 1 0 1 1 0
            """);
        says(15, value, "kinds 3 to 7", """
            path 3; words (15 4 1) (18 5); input 1 5 9; prepare 2 2 = 2; stopAt 1
            row 3 1 0 0 0 | 6 2 1 0 0; deliver 0; row 6 2 1 0 0 | 5 0 1 0 0; deliver 1
            row 6 2 1 0 0 | 6 1 2 0 0
            deliver 0; row 6 1 2 0 0 | 7 1 0 0 0; deliver 1; row 6 1 2 0 0 | 4 0 1 0 0 | 0 0 1 1 0
            """);
    }

    private static void promise15Row() {
        String sentence = "LETTERS are UNDER WAY in a row, in the order in which they were sent;"
                + " one that is DELIVERED goes from it and comes to its node.";
        says(15, sentence, "the first goes", """
            path 3; prepare 0 2; stopAt 1; deliver 0; row 2 1 0 0 0 | 2 1 2 0 0 | 2 2 1 0 0
            """);
        says(15, sentence, "the last goes", """
            path 3; prepare 0 2; stopAt 1; deliver 3; row 2 0 1 0 0 | 2 1 0 0 0 | 2 1 2 0 0
            """);
        says(15, sentence, "one in the midst goes", """
            path 3; prepare 0 2; stopAt 1; deliver 2; rounds 0 0 1
            row 2 0 1 0 0 | 2 1 0 0 0 | 2 2 1 0 0
            """);
        says(15, sentence, "the only one goes", """
            path 2; prepare 1 2; stopAt 1; deliver 0; row 4 0 1 0 0; deliver 0; row; rounds 1 1
            """);
    }

    private static void promise15Refused() {
        String sentence = "IndexOutOfBoundsException (also for another what, or without a run).";
        says(15, sentence, "the place in the row", """
            path 2; prepare 0 2; letter 0 0 ! Index; stopAt 1; letter 2 0 ! Index
            letter -1 0 ! Index
            letter MIN 0 ! Index; letter MAX 0 ! Index; letter 1 0 = 2; deliver 0
            letter 1 0 ! Index; letter 0 0 = 2
            """);
        says(15, sentence, "another what", """
            path 2; prepare 0 2; stopAt 1; letter 0 5 ! Index; letter 0 -1 ! Index
            letter 0 MIN ! Index
            letter 0 MAX ! Index; letter 0 4 = 0; letter 2 5 ! Index
            """);
        says(15, sentence, "without a run", """
            letter 0 0 ! Index; path 2; letter 0 0 ! Index; prepare 0 2; stopAt 1; release
            letter 0 0 ! Index; letter 0 5 ! Index
            """);
    }

    private static void promise17Most() {
        String sentence = "Letters are delivered until none is left, or most were: how many.";
        says(17, sentence, "0 of some", """
            path 2; prepare 0 2; stopAt 1; deliverAll 0 0 0 = 0; deliverAll 1 0 0 = 0
            deliverAll 2 0 0 = 0; letters = 2
            """);
        says(17, sentence, "none is under way", """
            path 2; prepare 0 2; deliverAll 0 0 2000 = 0; deliverAll 1 0 1 = 0
            deliverAll 2 9 2000 = 0
            """);
        says(17, sentence, "one less than all, then one more", """
            path 2; builtin 1; prepare 0 2; stopAt 2; deliverAll 0 0 11 = 11; letters = 1
            deliverAll 0 0 2000 = 1
            letters = 0; rounds 2 2
            """);
        says(17, sentence, "just as many as there are", """
            path 2; builtin 1; prepare 0 2; stopAt 2; deliverAll 2 3 12 = 12; letters = 0
            """);
        says(17, sentence, "2000, the most, and on from there", """
            path 2; builtin 1; prepare 0 2; stopAt 500; deliverAll 0 0 2000 = 2000
            deliverAll 0 0 2000 = 1000
            deliverAll 0 0 2000 = 0; rounds 500 500
            """);
    }

    private static void promise17Rules() {
        says(17, "Rule 0: always the first;", "whatever the seed is", """
            hub 4; prepare 0 2; stopAt 1; deliverAll 0 MIN 2 = 2; rounds 0 1 1 0
            row 2 0 3 0 0 | 2 1 0 0 0 | 2 2 0 0 0 | 2 3 0 0 0
            """);
        says(17, "1: the last;", "whatever the seed is", """
            hub 4; builtin 1; prepare 0 2; stopAt 1; deliverAll 1 MAX 3 = 3
            row 2 0 1 0 0 | 2 0 2 0 0 | 2 0 3 0 0 | 0 0 1 1 0 | 0 0 2 1 0 | 0 0 3 1 0
            deliverAll 1 0 2 = 2; row 2 0 1 0 0 | 2 0 2 0 0 | 2 0 3 0 0 | 0 0 1 1 0 | 0 0 2 1 0
            """);
        String drawn = "2: the seed becomes seed * 1103515245 + 12345, and, moved right by 16"
                + " (zeros come in),"
                + " modulo how many there are, is the letter's place.";
        for (String seed : new String[] {"0", "1", "-1", "MIN", "MAX", "1946", "-12345"}) {
            promise17Drawn(drawn, seed);
        }
    }

    /** The six SAFE of a hub of 4 at STOP 1 bring no other letters, so the places are easily told. */
    private static void promise17Drawn(String sentence, String seed) {
        int x = seed.equals("MIN") ? Integer.MIN_VALUE : seed.equals("MAX") ? Integer.MAX_VALUE
                : Integer.parseInt(seed);
        List<String> row = new ArrayList<>(List.of("2 0 1 0 0", "2 0 2 0 0", "2 0 3 0 0", "2 1 0 0 0",
                "2 2 0 0 0", "2 3 0 0 0"));
        for (int most = 1; most <= 6; most++) {
            long wrapped = ((x & 0xffffffffL) * 1103515245L + 12345L) & 0xffffffffL;
            x = (int) wrapped;
            row.remove((int) ((wrapped >> 16) % row.size()));
            says(17, sentence, "seed " + seed + ", " + most, "hub 4; prepare 0 2; stopAt 1; deliverAll 2 " + seed
                    + " " + most + " = " + most + "; row " + String.join(" | ", row));
        }
    }

    private static void promise17Refused() {
        String rule = "IllegalArgumentException when rule is not 0 .. 2,";
        says(17, rule, "beyond", """
            path 2; prepare 0 2; stopAt 1; deliverAll -1 0 1 ! Argument; deliverAll 3 0 1 ! Argument
            deliverAll MIN 0 1 ! Argument; deliverAll MAX 0 1 ! Argument; letters = 2
            deliverAll 2 0 1 = 1
            """);
        String most = "or most not 0 .. 2000;";
        says(17, most, "beyond", """
            path 2; prepare 0 2; stopAt 1; deliverAll 0 0 -1 ! Argument
            deliverAll 0 0 2001 ! Argument
            deliverAll 0 0 MIN ! Argument; deliverAll 2 0 MAX ! Argument; letters = 2
            deliverAll 0 0 2000 = 2
            """);
        says(17, "IllegalStateException.", "without a run, also for none", """
            deliverAll 0 0 0 ! State; path 2; deliverAll 0 0 2000 ! State; deliverAll 2 5 0 ! State
            prepare 0 2; deliverAll 0 0 0 = 0; release; deliverAll 1 0 1 ! State
            """);
        says(17, rule + " " + most + " IllegalStateException.", "the first of both", """
            deliverAll 3 0 1 ! Argument; path 2; deliverAll -1 0 0 ! Argument
            deliverAll 0 0 2001 ! Argument
            deliverAll 0 0 -1 ! Argument
            """);
    }
}
