/** Boundary cases of promises 1, 2, 3 and 8: a new object, nets, links and inputs. */
final class BoundaryNet {
    private BoundaryNet() {
    }

    static void all() {
        promise1NoNodes();
        promise1NoWords();
        promise2Nodes();
        promise2WhatStays();
        promise2Refused();
        promise3Numbers();
        promise3Ports();
        promise3NoNode();
        promise3SameNodes();
        promise3State();
        promise3Full();
        promise8Values();
        promise8Refused();
    }

    private static void says(int promise, String sentence, String name, String script) {
        BoundaryTest.says(promise, sentence, name, script);
    }

    private static void promise1NoNodes() {
        says(1, "No nodes", "no call of the first part finds one", """
            link 0 1 ! Element; link 0 0 ! Element
            input 0 0 0 ! Element
            plain 0 0 ! Element
            prepare 0 2 ! State
            """);
        says(1, "No nodes", "no call of the second part finds one", """
            roundOf 0 ! Element
            value 0 0 ! Element
            place 0 0 ! Element
            """);
        says(1, "No nodes", "no run, no letters", """
            letters = 0; letter 0 0 ! Index; deliver 0 ! Index; deliverAll 0 0 0 ! State
            release ! State; stopAt 0 ! State; switchTo 0 ! State; chosen 0 0 ! Index
            count 0 ! Index
            """);
    }

    private static void promise1NoWords() {
        says(1, "no words", "the program is empty", """
            check = -1
            cutAt 1 ! Argument; cutAt 0
            word 1 0 0 0 0 ! Argument; word 0 0 0 0 0 = 1
            """);
        says(1, "no words", "a round without words leaves the registers", """
            path 2; input 1 7 5; lockstep 300; plains 7 0 5
            """);
    }

    private static void promise2Nodes() {
        says(2, "A net of n nodes without links", "1 node", """
            net 1; plain 0 0 = 0; plain 1 0 ! Element; plain -1 0 ! Element
            """);
        says(2, "A net of n nodes without links", "24 nodes", """
            net 24; plain 23 0 = 0; plain 24 0 ! Element; input 23 0 1; input 24 0 1 ! Element
            """);
        says(2, "A net of n nodes without links", "a lesser net has its own nodes alone", """
            net 24; net 2; plain 1 7 = 0; plain 2 0 ! Element; link 0 2 ! Element; link 0 1 = 0
            """);
        says(2, "A net of n nodes without links", "60 links are gone", """
            net 24; pairs 60; link 22 23 ! Unsupported
            net 24; words (21 0); lockstep 1; plain 0 0 = 0; plain 23 0 = 0
            prepare 0 2 ! State
            pairs 60; link 22 23 ! Unsupported
            """);
        says(2, "A net of n nodes without links", "ports are numbered anew", """
            hub 4; net 3; link 0 2 = 0; link 0 1 = 1
            words (15 4 2) (17 1) (18 4); lockstep 2; plain 2 1 = 0; plain 1 1 = 1
            """);
        says(2, "A net of n nodes without links",
                "1 node alone is reached, 2 without a link are not", """
            net 1; prepare 0 2 = 1; release; net 2; prepare 0 2 ! State
            """);
        says(2, "A NET has NODES 0 .. n - 1 (24 at most)", "node n - 1 is there, node n is not", """
            net 24; words (20 0); lockstep 1; plain 0 0 = 0; plain 23 0 = 23; plain 24 0 ! Element
            """);
    }

    private static void promise2WhatStays() {
        says(2, "all inputs are 0", "of the first and the last", """
            net 24; input 0 0 MIN; input 23 7 5
            net 24; lockstep 0; plain 0 0 = 0; plain 23 7 = 0
            """);
        says(2, "all inputs are 0", "also of nodes that were not there in between", """
            net 24; input 23 7 5; input 1 0 6
            net 1; lockstep 0; plain 0 0 = 0
            net 24; lockstep 0; plain 23 7 = 0; plain 1 0 = 0
            """);
        says(2, "all inputs are 0", "in a run too", """
            path 2; input 1 3 9; path 2; prepare 0 2; values 3 0 0
            """);
        says(2, "(the program stays)", "the empty one", "net 1; cutAt 1 ! Argument; check = -1");
        says(2, "(the program stays)", "one of 64 words", """
            fill 0 63; word 63 0 3 9 0 = 64; net 1; net 2; cutAt 65 ! Argument
            lockstep 1; plains 3 9 9; word 64 0 0 0 0 ! Unsupported
            """);
        says(2, "(the program stays)", "a wrong one", "word 0 99 0 0 0 = 1; net 1; check = 0");
    }

    private static void promise2Refused() {
        String argument = "IllegalArgumentException when n is not 1 .. 24";
        says(2, argument, "below", "net 0 ! Argument; net -1 ! Argument; net MIN ! Argument");
        says(2, argument, "above", "net 25 ! Argument; net 32 ! Argument; net MAX ! Argument");
        says(2, argument, "with a net", """
            path 3; input 2 0 8; lockstep 0; net 0 ! Argument; net 25 ! Argument; net -24 ! Argument
            plains 0 0 0 8; link 0 1 ! State
            """);
        says(2, argument, "1 and 24 are taken", "net 1; net 24; net 1; plain 1 0 ! Element");
        says(2, "IllegalStateException.", "with a run", """
            path 2; input 1 0 4; prepare 0 2; net 1 ! State; net 2 ! State; net 24 ! State
            value 1 0 = 4; release; net 1
            """);
        says(2, argument + "; IllegalStateException.", "the first of both", """
            path 2; prepare 0 2; net 0 ! Argument; net 25 ! Argument; net MIN ! Argument
            """);
    }

    private static void promise3Numbers() {
        says(3, "A link: its number.", "the first and the second", """
            net 3; link 2 1 = 0; link 0 2 = 1
            """);
        says(3, "A link: its number.", "the 60th is 59", "net 24; pairs 59; link 23 22 = 59");
        says(3, "and LINKS 0, 1, .. (60 at most), each of two different nodes, no two of the same.",
                "a refused one takes no number", """
            net 3; link 0 0 ! Argument; link 0 1 = 0; link 1 0 ! State; link 3 1 ! Element
            link 1 2 = 1
            """);
        says(3, "and LINKS 0, 1, .. (60 at most), each of two different nodes, no two of the same.",
                "all pairs of 11 nodes", """
            net 11
            link 0 1; link 0 2; link 0 3; link 0 4; link 0 5; link 0 6; link 0 7; link 0 8; link 0 9
            link 0 10; link 1 2; link 1 3; link 1 4; link 1 5; link 1 6; link 1 7; link 1 8
            link 1 9
            link 1 10; link 2 3; link 2 4; link 2 5; link 2 6; link 2 7; link 2 8; link 2 9
            link 2 10
            link 3 4; link 3 5; link 3 6; link 3 7; link 3 8; link 3 9; link 3 10; link 4 5
            link 4 6
            link 4 7; link 4 8; link 4 9; link 4 10; link 5 6; link 5 7; link 5 8; link 5 9
            link 5 10
            link 6 7; link 6 8; link 6 9; link 6 10; link 7 8; link 7 9; link 7 10; link 8 9
            link 8 10
            link 9 10 = 54; link 10 9 ! State; link 10 10 ! Argument; link 0 11 ! Element
            """);
    }

    private static void promise3Ports() {
        String ports = "A node's PORTS 0, 1, .. are its links in their order;";
        says(3, ports, "not by the nodes' numbers, nor by which end came first", """
            net 4; link 3 1 = 0; link 0 1 = 1; link 1 2 = 2
            words (15 4 2) (17 1) (18 4); lockstep 2; plains 1 1 0 2 0
            """);
        says(3, ports, "none", """
            net 2; words (21 0) (15 1 1) (0 2 9); lockstep 1; plains 0 0 0; plains 2 0 0
            """);
        says(3, ports, "23, the most that a node can have", """
            net 24
            link 0 23; link 0 22; link 0 21; link 0 20; link 0 19; link 0 18; link 17 0; link 16 0
            link 15 0; link 14 0; link 13 0; link 12 0; link 11 0; link 10 0; link 9 0; link 8 0
            link 7 0; link 0 6; link 0 5; link 0 4; link 0 3; link 0 2; link 0 1 = 22
            words (15 4 2) (17 1) (18 4) (21 2); lockstep 2; plain 0 2 = 23; plain 0 4 = 22
            plain 1 2 = 1; plain 23 1 = 0; plain 18 1 = 5; plain 17 1 = 6; plain 2 1 = 21
            plain 1 1 = 22
            """);
        says(3, "its NEIGHBOURS are the nodes at their other ends.", "of either end", """
            net 3; link 2 0 = 0; link 1 0 = 1; prepare 0 2; stopAt 1
            row 2 0 2 0 0 | 2 0 1 0 0 | 2 1 0 0 0 | 2 2 0 0 0
            """);
    }

    private static void promise3NoNode() {
        says(3, "NoSuchElementException", "without a net", """
            link 0 1 ! Element; link -1 0 ! Element
            """);
        says(3, "NoSuchElementException", "the first node", """
            net 3; link 3 0 ! Element; link -1 0 ! Element; link MIN 0 ! Element
            link MAX 0 ! Element
            """);
        says(3, "NoSuchElementException", "the second node", """
            net 3; link 0 3 ! Element; link 0 -1 ! Element; link 0 MIN ! Element
            link 0 MAX ! Element
            """);
        says(3, "NoSuchElementException", "the greatest node is there", """
            net 24; link 24 23 ! Element; link 23 24 ! Element; link 23 22 = 0
            """);
        says(3, "NoSuchElementException; IllegalArgumentException when the nodes are the same",
                "the first of both", "net 3; link 3 3 ! Element; link -1 -1 ! Element");
        says(3, "NoSuchElementException", "ahead of a run's state, and of 60 links", """
            net 24; pairs 60; link 24 23 ! Element; prepare 0 2; link -1 0 ! Element
            link 0 24 ! Element
            """);
        says(3, "NoSuchElementException: there is no such node.",
                "each call that names it, before a net", """
            link 0 1 ! Element; input 0 0 0 ! Element; plain 0 0 ! Element
            roundOf 0 ! Element; value 0 0 ! Element; place 0 0 ! Element
            """);
        says(3, "NoSuchElementException: there is no such node.",
                "each call that names it, with 2 nodes", """
            path 2; prepare 0 2
            link 1 2 ! Element; input 2 0 0 ! Element; plain 2 0 ! Element
            roundOf 2 ! Element; value 2 0 ! Element; place 2 0 ! Element
            """);
    }

    private static void promise3SameNodes() {
        says(3, "IllegalArgumentException when the nodes are the same",
                "the least and the greatest", """
            net 24; link 0 0 ! Argument; link 23 23 ! Argument; link 22 23 = 0
            """);
        says(3, "IllegalArgumentException when the nodes are the same",
                "ahead of a run's state", """
            path 2; prepare 0 2; link 1 1 ! Argument; link 0 0 ! Argument
            """);
        says(3, "IllegalArgumentException when the nodes are the same", "ahead of 60 links", """
            net 24; pairs 60; link 22 22 ! Argument
            """);
    }

    private static void promise3State() {
        says(3, "IllegalStateException (when they have one, too)", "they have one", """
            net 3; link 0 1 = 0; link 0 1 ! State; link 1 0 ! State; link 0 2 = 1; link 2 0 ! State
            """);
        says(3, "IllegalStateException (when they have one, too)", "with a run", """
            path 3; prepare 0 2; link 0 2 ! State; link 0 1 ! State; count 4 = 4; release
            link 0 2 = 2
            """);
        says(3, "IllegalStateException (when they have one, too)", "ahead of 60 links", """
            net 24; pairs 60; link 1 0 ! State; link 0 23 ! State
            prepare 0 2; link 22 23 ! State; count 4 = 120
            """);
    }

    private static void promise3Full() {
        says(3, "UnsupportedOperationException when there are 60.",
                "the 60th is taken, the 61st is not", """
            net 24; pairs 59; link 22 23 = 59; link 21 23 ! Unsupported; link 23 21 ! Unsupported
            prepare 0 2; count 4 = 120
            """);
        says(3, "UnsupportedOperationException when there are 60.", "another net has none", """
            net 24; pairs 60; link 22 23 ! Unsupported; net 2; link 0 1 = 0
            """);
    }

    private static void promise8Values() {
        says(8, "An INPUT.", "the least and the greatest node, register and number", """
            net 24; input 23 7 MIN; input 0 0 MAX; input 23 0 -1; input 0 7 1; lockstep 0
            plain 23 7 = MIN; plain 0 0 = MAX; plain 23 0 = -1; plain 0 7 = 1
            plain 1 0 = 0; plain 22 7 = 0; plain 0 1 = 0; plain 23 6 = 0
            """);
        says(8, "An INPUT.", "the later one counts, 0 too", """
            net 1; input 0 3 5; input 0 3 0; input 0 4 6; input 0 4 7; lockstep 0
            plain 0 3 = 0; plain 0 4 = 7
            """);
        says(8, "An INPUT.", "it stays behind plain runs and runs", """
            net 1; words (0 0 9); input 0 0 5; lockstep 1; plain 0 0 = 9; prepare 0 2; stopAt 1
            value 0 0 = 9; release; lockstep 0; plain 0 0 = 5; prepare 1 2; value 0 0 = 5
            """);
        says(8, "An INPUT.", "of a node without links", """
            net 2; input 1 0 4; lockstep 0; plains 0 0 4
            """);
    }

    private static void promise8Refused() {
        says(8, "NoSuchElementException", "beyond the nodes", """
            input 0 0 1 ! Element; net 2; input 2 0 1 ! Element; input -1 0 1 ! Element
            input MIN 0 1 ! Element; input MAX 0 1 ! Element; input 1 0 1
            """);
        says(8, "IndexOutOfBoundsException when r is not 0 .. 7", "beyond the registers", """
            net 2; input 0 8 1 ! Index; input 0 -1 1 ! Index; input 1 8 1 ! Index
            input 1 -1 1 ! Index
            input 0 MIN 1 ! Index; input 0 MAX 1 ! Index
            """);
        says(8, "IndexOutOfBoundsException when r is not 0 .. 7", "0 and 7 are taken", """
            net 1; input 0 0 1; input 0 7 2; lockstep 0; plain 0 0 = 1; plain 0 7 = 2
            """);
        says(8, "IllegalStateException.", "with a run", """
            path 2; input 1 7 3; prepare 0 2; input 1 7 4 ! State; input 0 0 1 ! State
            value 1 7 = 3
            release; input 1 7 4; prepare 0 2; value 1 7 = 4
            """);
        says(8, "NoSuchElementException; IndexOutOfBoundsException when r is not 0 .. 7",
                "the first of both", """
            input 0 8 1 ! Element; net 2; input 2 8 1 ! Element; input -1 -1 1 ! Element
            """);
        says(8, "IndexOutOfBoundsException when r is not 0 .. 7; IllegalStateException.",
                "the first of both", """
            path 2; prepare 0 2; input 2 0 1 ! Element; input 2 8 1 ! Element; input 1 8 1 ! Index
            input 1 -1 1 ! Index
            """);
    }
}
