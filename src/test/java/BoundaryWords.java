/** Boundary cases of promises 9 and 10: what each word does, and the plain run. */
final class BoundaryWords {
    private static final int MIN = Integer.MIN_VALUE;
    private static final int MAX = Integer.MAX_VALUE;

    private BoundaryWords() {
    }

    static void all() {
        promise9Registers();
        promise9WrapAround();
        promise9PutTogether();
        promise9LessAndSame();
        promise9BitAndFree();
        promise9Skip();
        promise9Each();
        promise9GotAndTake();
        promise9Send();
        promise9RoundSelfPorts();
        promise9RoundByRound();
        promise9HowManyRounds();
        promise9Refused();
        promise10Latest();
        promise10Before();
        promise10Refused();
    }

    private static void says(int promise, String sentence, String name, String script) {
        BoundaryTest.says(promise, sentence, name, script);
    }

    /** One word on register 3, with a and b in registers 1 and 2, in the plain run and in a run. */
    private static void reckons(String sentence, int due, int op, int a, int b) {
        says(9, sentence, "op " + op + " of " + a + ", " + b, "net 1; word 0 " + op + " 3 1 2; input 0 1 " + a
                + "; input 0 2 " + b + "; input 0 3 77; lockstep 1; plain 0 1 = " + a + "; plain 0 2 = " + b
                + "; plain 0 3 = " + due + "; prepare 0 2; stopAt 1; value 0 3 = " + due);
    }

    private static void promise9Registers() {
        says(9, "A node has REGISTERS 0 .. 7, ints;",
                "the first and the last are two, of each node its own", """
            net 2; words (20 0) (20 7) (0 6 1) (2 0 0 6) (3 7 7 6); lockstep 1
            plains 0 1 2; plains 7 -1 0
            """);
        says(9, "Rr is what register r has.", "r may be a and b too", """
            net 1; words (0 1 7) (2 1 1 1) (4 2 1 1) (3 1 1 1) (8 7 7 7); lockstep 1
            plain 0 1 = 0; plain 0 2 = 196; plain 0 7 = 1
            """);
        String set = "0 SET: r becomes the number a.";
        says(9, set, "the least, the greatest, 0", """
            net 1; words (0 0 MIN) (0 7 MAX) (0 3 0); input 0 3 9; lockstep 1
            plain 0 0 = MIN; plain 0 7 = MAX; plain 0 3 = 0
            """);
        String copy = "1 COPY: r becomes Ra.";
        reckons(copy, MIN, 1, MIN, 5);
        reckons(copy, MAX, 1, MAX, 5);
        says(9, copy, "of the last register to the first", """
            net 1; words (1 0 7) (1 6 0); input 0 7 MIN; lockstep 1
            plain 0 0 = MIN; plain 0 6 = MIN; plain 0 7 = MIN
            """);
    }

    private static void promise9WrapAround() {
        String sentence = "all arithmetic wraps around.";
        reckons(sentence, MIN, 2, MAX, 1);
        reckons(sentence, MAX, 2, MIN, -1);
        reckons(sentence, 0, 2, MIN, MIN);
        reckons(sentence, -2, 2, MAX, MAX);
        reckons(sentence, -1, 2, MAX, MIN);
        reckons(sentence, MAX, 3, MIN, 1);
        reckons(sentence, MIN, 3, MAX, -1);
        reckons(sentence, MIN, 3, 0, MIN);
        reckons(sentence, 1, 3, MIN, MAX);
        reckons(sentence, 0, 4, 65536, 65536);
        reckons(sentence, 1, 4, MAX, MAX);
        reckons(sentence, MIN, 4, MIN, -1);
        reckons(sentence, 0, 4, MIN, MIN);
        reckons(sentence, -2, 4, MAX, 2);
        reckons(sentence, -2147479015, 4, 46341, 46341);
        says(9, sentence, "from round to round, 300 times", """
            net 1; words (2 0 0 0) (2 1 1 2); input 0 0 1; input 0 1 2147483400; input 0 2 1
            lockstep 31; plain 0 0 = MIN; lockstep 32; plain 0 0 = 0; lockstep 300; plain 0 0 = 0
            plain 0 1 = -2147483596
            """);
    }

    private static void promise9PutTogether() {
        String sentence = "2 ADD, 3 SUB, 4 MUL, 5 MIN, 6 MAX, 9 AND, 10 OR, 11 XOR:"
                + " r becomes Ra and Rb put together so.";
        reckons(sentence, 11, 2, 5, 6);
        reckons(sentence, -1, 3, 5, 6);
        reckons(sentence, -30, 4, 5, -6);
        reckons(sentence, 0, 4, 0, MIN);
        reckons(sentence, MIN, 5, MIN, MAX);
        reckons(sentence, MIN, 5, MAX, MIN);
        reckons(sentence, 4, 5, 4, 4);
        reckons(sentence, MAX, 6, MIN, MAX);
        reckons(sentence, MAX, 6, MAX, MIN);
        reckons(sentence, -4, 6, -4, -4);
        reckons(sentence, 0, 9, MIN, MAX);
        reckons(sentence, MIN, 9, -1, MIN);
        reckons(sentence, 8, 9, 12, 10);
        reckons(sentence, -1, 10, MIN, MAX);
        reckons(sentence, 14, 10, 12, 10);
        reckons(sentence, 0, 10, 0, 0);
        reckons(sentence, 6, 11, 12, 10);
        reckons(sentence, 0, 11, -1, -1);
        reckons(sentence, MAX, 11, -1, MIN);
    }

    private static void promise9LessAndSame() {
        String sentence = "7 LESS, 8 SAME: r becomes 1, if Ra is less than Rb, or the same,"
                + " otherwise 0.";
        reckons(sentence, 1, 7, MIN, MAX);
        reckons(sentence, 0, 7, MAX, MIN);
        reckons(sentence, 1, 7, -1, 0);
        reckons(sentence, 0, 7, 0, 0);
        reckons(sentence, 0, 7, MIN, MIN);
        reckons(sentence, 0, 7, 1, 0);
        reckons(sentence, 1, 8, MIN, MIN);
        reckons(sentence, 0, 8, MIN, 0);
        reckons(sentence, 0, 8, MIN, MAX);
        reckons(sentence, 0, 8, 300, 301);
        reckons(sentence, 1, 8, 0, 0);
    }

    private static void promise9BitAndFree() {
        String bit = "12 BIT: r becomes 1 moved left by the lowest five bits of Ra.";
        reckons(bit, 1, 12, 0, 9);
        reckons(bit, 2, 12, 1, 9);
        reckons(bit, 1 << 30, 12, 30, 9);
        reckons(bit, MIN, 12, 31, 9);
        reckons(bit, 1, 12, 32, 9);
        reckons(bit, 2, 12, 33, 9);
        reckons(bit, MIN, 12, -1, 9);
        reckons(bit, 1, 12, -32, 9);
        reckons(bit, MIN, 12, MAX, 9);
        reckons(bit, 1, 12, MIN, 9);
        String free = "13 FREE: r becomes the number of the lowest bit (0 .. 31) of Ra that is"
                + " 0; 32 without.";
        reckons(free, 0, 13, 0, 9);
        reckons(free, 1, 13, 1, 9);
        reckons(free, 0, 13, 2, 9);
        reckons(free, 3, 13, 7, 9);
        reckons(free, 2, 13, 0x7ffffffb, 9);
        reckons(free, 30, 13, 0x3fffffff, 9);
        reckons(free, 30, 13, 0xbfffffff, 9);
        reckons(free, 31, 13, MAX, 9);
        reckons(free, 32, 13, -1, 9);
        reckons(free, 0, 13, -2, 9);
        reckons(free, 0, 13, MIN, 9);
    }

    private static void promise9Skip() {
        String sentence = "14 SKIP: if Rr is 0, the next a words are not done.";
        says(9, sentence, "0, and the numbers next to it", """
            net 3; words (14 0 1) (0 1 5) (0 2 6); input 1 0 1; input 2 0 -1; lockstep 1
            plains 1 0 5 5; plains 2 6 6 6
            """);
        says(9, sentence, "the least number is not 0", """
            net 1; words (14 7 1) (0 1 5); input 0 7 MIN; lockstep 1; plain 0 1 = 5
            """);
        says(9, sentence, "up to the program's end", """
            net 2; words (14 0 2) (0 1 5) (0 2 6); input 1 0 1; lockstep 1; plains 1 0 5
            plains 2 0 6
            """);
        says(9, sentence, "63 words", """
            net 2; word 0 14 0 63 0 = 1; word 1 0 1 5 0 = 2; fill 2 63; word 63 0 2 6 0 = 64
            input 1 0 1
            lockstep 1; plains 1 0 5; plains 2 0 6
            """);
        says(9, sentence, "all but the last", """
            net 1; word 0 14 0 62 0 = 1; word 1 0 1 5 0 = 2; fill 2 62; word 62 0 2 6 0 = 63
            word 63 0 3 7 0 = 64; lockstep 1; plain 0 1 = 0; plain 0 2 = 0; plain 0 3 = 7
            """);
        says(9, sentence, "over a whole EACH", """
            path 2; words (14 0 2) (15 4 1) (0 1 5) (0 2 6); input 1 0 1; lockstep 1; plains 1 0 5
            plains 2 6 6
            """);
        says(9, sentence, "onto another SKIP, and over one", """
            net 1; words (14 0 1) (0 1 5) (14 0 2) (14 0 1) (0 2 6) (0 3 7); lockstep 1
            plain 0 1 = 0; plain 0 2 = 0; plain 0 3 = 7
            """);
        says(9, sentence,
                "up to the last word of an EACH: the next port comes, and the words behind", """
            ring 3; words (15 4 3) (0 1 5) (14 4 1) (2 2 2 1) (0 3 1); lockstep 1; plains 2 5 5 5
            plains 3 1 1 1
            """);
    }

    private static void promise9Each() {
        String sentence = "15 EACH: for each port, in order: r becomes its number, then the next"
                + " a words are done"
                + " (without ports r stays, and these are not done).";
        says(9, sentence, "without ports", """
            net 1; words (15 4 2) (0 4 9) (0 5 9) (0 6 9); input 0 4 50; lockstep 1
            plain 0 4 = 50; plain 0 5 = 0; plain 0 6 = 9
            """);
        says(9, sentence, "one port", """
            path 2; words (15 4 2) (0 5 1) (2 6 6 5); input 0 4 50; lockstep 1; plains 4 0 0
            plains 6 1 1
            """);
        says(9, sentence, "23 ports, in order", """
            hub 24; words (0 5 3) (15 4 2) (4 6 6 5) (2 6 6 4) (0 7 8); lockstep 1
            plain 0 4 = 22; plain 0 6 = 2060958215; plain 0 7 = 8; plain 23 4 = 0; plain 23 6 = 0
            """);
        says(9, sentence, "63 words", """
            path 3; word 0 15 4 63 0 = 1; fill 1 63; word 63 2 0 0 7 = 64; input 1 7 5; input 0 7 4
            lockstep 1; plains 0 4 10 0
            """);
        says(9, sentence, "the word behind its words is done once", """
            path 3; words (0 7 1) (15 4 1) (2 0 0 7) (2 1 1 7); lockstep 1; plains 0 1 2 1
            plains 1 1 1 1
            """);
        says(9, sentence, "r is its number again at each port, whatever the words made of it", """
            path 3; words (15 4 2) (2 0 0 4) (0 4 100); lockstep 1; plains 0 0 1 0
            plains 4 100 100 100
            """);
        says(9, "Within the words of an EACH:",
                "the port is the one of the turn, whatever r has", """
            path 3; words (15 4 4) (17 0) (0 4 1) (18 4) (0 4 2); lockstep 2; plains 0 1 1 1
            """);
    }

    private static void promise9GotAndTake() {
        String got = "16 GOT: r becomes 1, if a LETTER came by the port, otherwise 0;";
        says(9, got, "in round 1 none came, then one did", """
            path 2; words (15 4 2) (16 1) (18 0); input 0 1 9; lockstep 1; plains 1 0 0
            lockstep 2; plains 1 1 1
            """);
        says(9, got, "a letter with 0 came too", """
            path 3; words (20 3) (15 4 1) (16 1) (14 3 2) (15 4 1) (18 7); lockstep 2
            plains 1 1 1 1
            """);
        says(9, got, "by the last of 23 ports alone", """
            hub 24
            words (15 4 2) (16 1) (2 2 2 1) (0 5 23) (20 6) (8 6 6 5) (14 6 2) (15 4 1) (18 7)
            lockstep 2; plain 0 1 = 1; plain 0 2 = 1; plain 1 1 = 0; plain 23 1 = 0
            """);
        String take = "17 TAKE: its value, otherwise 0;";
        says(9, take, "the least and the greatest value", """
            path 2; words (15 4 2) (17 1) (18 0); input 0 0 MIN; input 1 0 MAX; lockstep 2
            plains 1 MAX MIN
            """);
        says(9, take, "none came", """
            path 2; words (15 4 1) (17 1); input 0 1 9; input 1 1 9; lockstep 1; plains 1 0 0
            """);
        says(9, take, "none came in the round before, but in the one before that", """
            path 2; words (15 4 1) (17 1) (19 5) (0 6 2) (7 5 5 6) (14 5 2) (15 4 1) (18 5)
            lockstep 2; plains 1 1 1; lockstep 3; plains 1 0 0; lockstep 4; plains 1 0 0
            """);
        says(9, take, "twice: the letter stays for the round", """
            path 2; words (15 4 4) (17 1) (17 2) (16 3) (18 0) (15 4 1) (17 5); input 0 0 6
            input 1 0 7
            lockstep 2; plains 1 7 6; plains 2 7 6; plains 3 1 1; plains 5 7 6
            """);
    }

    private static void promise9Send() {
        String sentence = "18 SEND: a letter with the value Rr, as it is then, is to go by the port"
                + " (in the place of one that was to go there).";
        says(9, sentence, "as it is then", """
            path 2; words (15 4 4) (17 1) (0 0 5) (18 0) (0 0 6); lockstep 2; plains 1 5 5
            """);
        says(9, sentence, "in the place of one", """
            path 2; words (15 4 5) (17 1) (0 0 5) (18 0) (0 0 6) (18 0); prepare 0 2; stopAt 1
            deliver 0 = 2; deliver 0 = 2; row 0 1 0 1 6 | 0 0 1 1 6; count 0 = 2; lockstep 2
            plains 1 6 6
            """);
        says(9, sentence, "in the place of one of an EACH before", """
            path 2; words (15 4 1) (18 6) (0 7 MIN) (15 4 2) (17 1) (18 7); lockstep 2
            plains 1 MIN MIN
            """);
        says(9, sentence, "by some ports only", """
            hub 4; words (15 4 2) (14 4 1) (18 4); prepare 0 2; stopAt 1; deliverAll 0 0 6 = 6
            row 0 0 2 1 1 | 0 0 3 1 2
            """);
    }

    private static void promise9RoundSelfPorts() {
        String sentence = "19 ROUND: r becomes the round's number, 20 SELF: the node's,"
                + " 21 PORTS: how many ports it has.";
        says(9, sentence, "the first round and the 300th", """
            net 1; words (19 7); lockstep 1; plain 0 7 = 1; lockstep 300; plain 0 7 = 300
            """);
        says(9, sentence, "round 500 of a run", """
            net 1; words (19 7); prepare 0 2; stopAt 500; value 0 7 = 500
            """);
        says(9, sentence, "the first node and the last", """
            net 24; words (20 7); input 0 7 5; lockstep 1; plain 0 7 = 0; plain 23 7 = 23
            """);
        says(9, sentence, "no ports, one, 23", """
            net 1; words (21 7); input 0 7 5; lockstep 1; plain 0 7 = 0
            hub 24; lockstep 1; plain 0 7 = 23; plain 23 7 = 1
            """);
    }

    private static void promise9RoundByRound() {
        says(9, "ROUND k (1, 2, ..) of a node: the program is done, with the letters that its"
                + " neighbours sent"
                + " to it in round k - 1; at its end letters go, by ports.", "not those of round k", """
            path 3; words (15 4 2) (17 1) (2 0 0 1) (19 5) (15 4 1) (18 5); lockstep 1
            plains 0 0 0 0
            lockstep 2; plains 0 1 2 1; lockstep 3; plains 0 3 6 3; lockstep 4; plains 0 6 12 6
            """);
        says(9, "ROUND k (1, 2, ..) of a node: the program is done, with the letters that its"
                + " neighbours sent"
                + " to it in round k - 1; at its end letters go, by ports.", "by ports, not in the order of SEND", """
            net 3; link 0 2; link 0 1; words (15 4 2) (14 4 1) (18 6) (15 4 1) (18 4)
            prepare 0 2; stopAt 1; deliverAll 0 0 4 = 4
            row 0 2 0 1 0 | 0 1 0 1 0 | 0 0 2 1 0 | 0 0 1 1 1
            """);
        says(9, "Round 0 has no letters; registers are the INPUTS then.", "round 1 gets none", """
            path 2; words (15 4 2) (16 1) (17 2); input 0 1 7; input 0 2 7; lockstep 0
            plain 0 1 = 7; plain 0 2 = 7
            lockstep 1; plain 0 1 = 0; plain 0 2 = 0
            """);
        says(9, "Round 0 has no letters; registers are the INPUTS then.", "in a run", """
            path 2; builtin 1; input 1 0 -7; prepare 0 2; letters = 0; values 0 0 -7; count 0 = 0
            """);
        says(9, "THE PLAIN RUN: all nodes do round 1, then all round 2, and so on.",
                "nobody is ahead", """
            path 3; words (15 4 4) (16 1) (14 1 2) (17 2) (2 0 0 2) (15 4 1) (18 0); input 0 0 1
            lockstep 1; plains 0 1 0 0; lockstep 2; plains 0 1 1 0; lockstep 3; plains 0 2 2 1
            """);
    }

    private static void promise9HowManyRounds() {
        String sentence = "THE PLAIN RUN of so many rounds.";
        says(9, sentence, "0", "net 1; words (0 0 9); input 0 0 5; lockstep 0; plain 0 0 = 5");
        says(9, sentence, "1, 299, 300", """
            net 1; words (0 1 1) (2 0 0 1); input 0 0 5; lockstep 1; plain 0 0 = 6; lockstep 299
            plain 0 0 = 304
            lockstep 300; plain 0 0 = 305
            """);
        says(9, sentence, "always from the inputs, without letters of the one before", """
            path 2; words (15 4 2) (17 1) (18 0) (2 2 2 1); input 0 0 5; input 1 2 1; lockstep 2
            plains 2 0 6
            lockstep 1; plains 2 0 1; lockstep 2; plains 2 0 6; lockstep 0; plains 2 0 1
            """);
        says(9, sentence, "24 nodes, 60 links, 300 rounds", """
            net 24; pairs 60; builtin 1; input 23 0 -5; input 22 0 MIN; lockstep 300
            plain 0 0 = MIN; plain 23 0 = MIN
            """);
    }

    private static void promise9Refused() {
        String argument = "IllegalArgumentException when rounds is not 0 .. 300";
        says(9, argument, "below 0", """
            lockstep -1 ! Argument; net 1; input 0 0 5; lockstep -1 ! Argument
            lockstep MIN ! Argument; plain 0 0 = 0
            """);
        says(9, argument, "above 300", """
            lockstep 301 ! Argument; net 1; input 0 0 5; lockstep 301 ! Argument
            lockstep MAX ! Argument; plain 0 0 = 0
            """);
        says(9, argument, "0 and 300 are taken", "net 1; lockstep 0; lockstep 300");
        String wrong = "IllegalStateException when a word is wrong.";
        says(9, wrong, "the first, and the last of 64", """
            net 1; input 0 0 5; lockstep 0; word 0 22 0 0 0 = 1; lockstep 1 ! State
            lockstep 0 ! State
            word 0 0 0 1 0 = 1; fill 1 63; word 63 0 8 0 0 = 64; lockstep 1 ! State; plain 0 0 = 5
            cutAt 63; lockstep 1; plain 0 0 = 1
            """);
        says(9, wrong, "one that would never be done", """
            net 1; words (0 0 0) (14 0 1) (99 0); lockstep 1 ! State
            """);
        says(9, argument + "; " + wrong, "the first of both", """
            net 1; word 0 22 0 0 0 = 1; lockstep -1 ! Argument; lockstep 301 ! Argument
            lockstep 300 ! State
            """);
        says(9, "(Also with a run;", "neither disturbs the other", """
            path 2; words (15 4 2) (17 1) (2 0 0 1) (20 2) (0 3 1) (2 2 2 3) (15 4 1) (18 2)
            prepare 0 2; stopAt 3; deliverAll 0 0 7 = 7; lockstep 9; plains 0 16 8
            deliverAll 0 0 2000 = 11
            values 0 4 2; plains 0 16 8; lockstep 301 ! Argument; lockstep -1 ! Argument
            """);
        says(9, "without a net there is nothing to do.)",
                "0 and 300 rounds, without words and with", """
            lockstep 0; lockstep 300; builtin 4; lockstep 0; lockstep 300; net 2; plains 1 0 0
            """);
    }

    private static void promise10Latest() {
        String sentence = "A register of a node behind the latest plain run";
        says(10, sentence, "the first and the last node and register", """
            net 24; words (20 0) (19 7); lockstep 300; plain 0 0 = 0; plain 23 0 = 23
            plain 0 7 = 300; plain 23 7 = 300
            """);
        says(10, sentence, "not changed by inputs, links, words, cutting, nor a run", """
            net 2; words (0 1 6); input 1 0 5; lockstep 1; input 1 0 9; link 0 1; builtin 2; cutAt 0
            plains 0 0 5; plains 1 6 6; prepare 0 2; stopAt 9; deliverAll 0 0 2000; plains 0 0 5
            plains 1 6 6
            release; plains 0 0 5; plains 1 6 6
            """);
        says(10, sentence, "nor by a refused plain run", """
            net 1; input 0 0 5; lockstep 0; input 0 0 6; lockstep 301 ! Argument; word 0 99 0 0 0
            lockstep 0 ! State
            plain 0 0 = 5
            """);
    }

    private static void promise10Before() {
        String sentence = "(0 before any, and when there was another net since).";
        says(10, sentence, "before any, whatever the inputs are", """
            net 2; input 1 7 5; plains 7 0 0; plains 0 0 0
            """);
        says(10, sentence, "before any, with a run", """
            path 2; input 1 7 5; prepare 0 2; plains 7 0 0
            """);
        says(10, sentence, "another net, of as many nodes", """
            net 2; input 1 7 5; lockstep 0; net 2; plains 7 0 0
            """);
        says(10, sentence, "another net, then one as before", """
            net 24; input 23 7 5; lockstep 0; net 1; net 24; plain 23 7 = 0
            """);
        says(10, sentence, "a plain run without a net", """
            words (0 0 5); lockstep 9; net 1; plain 0 0 = 0
            """);
        says(10, sentence, "a refused net is none", """
            net 1; input 0 7 5; lockstep 0; net 0 ! Argument; net 25 ! Argument; prepare 0 2
            net 1 ! State; plain 0 7 = 5
            """);
    }

    private static void promise10Refused() {
        says(10, "NoSuchElementException", "without a net, and just beyond the nodes", """
            plain 0 0 ! Element; net 2; plain 2 0 ! Element; plain -1 0 ! Element
            plain MIN 0 ! Element
            plain MAX 0 ! Element; plain 1 0 = 0
            """);
        says(10, "IndexOutOfBoundsException when r is not 0 .. 7.", "just beyond the registers", """
            net 2; plain 0 8 ! Index; plain 0 -1 ! Index; plain 1 8 ! Index; plain 1 -1 ! Index
            plain 1 MIN ! Index; plain 1 MAX ! Index; plain 1 0 = 0; plain 1 7 = 0
            """);
        says(10, "NoSuchElementException; IndexOutOfBoundsException when r is not 0 .. 7.",
                "the first of both", """
            plain 0 8 ! Element; net 2; plain 2 8 ! Element; plain -1 -1 ! Element
            """);
    }
}
