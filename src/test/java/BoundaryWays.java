/** Boundary cases of promises 16 and 18: letters that come, the three ways, and switching. */
final class BoundaryWays {
    private BoundaryWays() {
    }

    static void all() {
        promise16Kind();
        promise16Refused();
        promise16Receipts();
        promise16Safe();
        promise16EarlyLetters();
        promise16ByNodes();
        promise16ByTree();
        promise16ByClusters();
        promise16AtOnce();
        promise18Border();
        promise18BetweenWays();
        promise18Refused();
    }

    private static void says(int promise, String sentence, String name, String script) {
        BoundaryTest.says(promise, sentence, name, script);
    }

    private static void promise16Kind() {
        String sentence = "Letter i under way is DELIVERED: its kind.";
        says(16, sentence, "the first, the last, the only one", """
            path 3; prepare 0 2; stopAt 1; deliver 3 = 2; deliver 0 = 2; rounds 0 1 0; deliver 1 = 2
            rounds 0 1 1
            deliver 0 = 2; rounds 1 1 1; letters = 0; deliver 0 ! Index
            """);
        says(16, sentence, "kinds 0, 1, 2", """
            path 2; builtin 1; prepare 0 2; stopAt 1; deliver 0 = 2; deliver 0 = 2; deliver 0 = 0
            deliver 1 = 1
            deliver 0 = 0; deliver 0 = 1; letters = 0
            """);
        says(16, sentence, "kinds 3, 4", """
            path 2; prepare 1 2; stopAt 1; deliver 0 = 3; deliver 0 = 4; rounds 1 1
            """);
        says(16, sentence, "kinds 3, 5, 6, 7, 4", """
            path 3; prepare 2 2; stopAt 1; deliver 0 = 3; deliver 0 = 6; deliver 0 = 5
            deliver 0 = 6; rounds 0 0 1
            deliver 0 = 7; deliver 0 = 4; rounds 1 1 1; letters = 0
            """);
    }

    private static void promise16Refused() {
        String sentence = "IndexOutOfBoundsException (also without a run).";
        says(16, sentence, "beyond the row", """
            path 2; prepare 0 2; deliver 0 ! Index; stopAt 1; deliver 2 ! Index; deliver -1 ! Index
            deliver MIN ! Index
            deliver MAX ! Index; row 2 0 1 0 0 | 2 1 0 0 0; deliver 1 = 2; deliver 1 ! Index
            deliver 0 = 2
            """);
        says(16, sentence, "without a run", """
            deliver 0 ! Index; path 2; deliver 0 ! Index; prepare 0 2; stopAt 1; release
            deliver 0 ! Index
            """);
    }

    private static void promise16Receipts() {
        says(16, "Kind 0 is a program's letter; when one comes, a RECEIPT (1) goes back, with"
                + " its round.",
                "to a node that is a round behind, and to one at the end", """
            path 2; words (15 4 1) (18 0); input 0 0 8; prepare 0 2; stopAt 1; deliver 1; rounds 1 0
            row 2 0 1 0 0 | 0 0 1 1 8; deliver 1 = 0; row 2 0 1 0 0 | 1 1 0 1 0; deliver 0
            rounds 1 1
            row 1 1 0 1 0 | 0 1 0 1 0; deliver 1 = 0; row 1 1 0 1 0 | 1 0 1 1 0; count 1 = 2
            """);
        says(16, "Kind 0 is a program's letter; when one comes, a RECEIPT (1) goes back, with"
                + " its round.",
                "for a letter of the round before, to a node that is ahead", """
            path 3; words (15 4 1) (18 0); prepare 1 2; stopAt 1; deliverAll 0 0 2 = 2; rounds 1 0 0
            row 4 0 1 0 0 | 0 0 1 1 0; deliver 1 = 0; deliver 0 = 4
            row 1 1 0 1 0 | 4 1 2 0 0 | 0 1 0 1 0 | 0 1 2 1 0
            deliver 3 = 0; row 1 1 0 1 0 | 4 1 2 0 0 | 0 1 0 1 0 | 1 2 1 1 0
            """);
    }

    private static void promise16Safe() {
        String sentence = "A node is SAFE, when all letters that it sent in its latest round k"
                + " are receipted.";
        says(16, sentence, "one of two is not yet", """
            hub 3; words (15 4 1) (18 0); prepare 0 2; stopAt 2; deliverAll 0 0 4 = 4; rounds 1 1 1
            letters = 4
            row 0 1 0 1 0 | 0 2 0 1 0 | 0 0 1 1 0 | 0 0 2 1 0; deliver 2; deliver 3; letters = 3
            row 0 1 0 1 0 | 0 2 0 1 0 | 0 0 2 1 0; deliver 2; deliver 2 = 1
            row 0 1 0 1 0 | 0 2 0 1 0 | 2 0 1 1 0 | 2 0 2 1 0
            """);
        says(16, sentence, "23 letters", """
            hub 24; words (15 4 1) (18 0); prepare 0 2; stopAt 2; deliverAll 0 0 46 = 46
            roundOf 0 = 1; roundOf 23 = 1
            count 0 = 46; deliverAll 0 0 46 = 46; count 1 = 46; deliverAll 0 0 45 = 45; count 2 = 69
            deliver 0 = 1
            count 2 = 92
            """);
        says(16, "(With a round without letters it is safe as soon as it was done.)",
                "in a net that sends none", """
            path 2; words (19 0); prepare 0 2; stopAt 3; deliver 1; rounds 1 0
            row 2 0 1 0 0 | 2 0 1 1 0; count 0 = 0
            """);
        says(16, "(With a round without letters it is safe as soon as it was done.)",
                "by the tree, in a node without", """
            path 2; words (20 3) (14 3 2) (15 4 1) (18 0); prepare 1 2; stopAt 2; deliver 0
            rounds 1 0
            row 4 0 1 0 0; deliver 0; row 0 1 0 1 0; deliver 0; deliver 0 = 1; row 3 1 0 1 0
            """);
    }

    private static void promise16EarlyLetters() {
        String sentence = "what it is told of a round k + 1 before that stays for then.";
        says(16, sentence, "SAFE of round 1 ahead of that of round 0", """
            path 2; prepare 0 2; stopAt 2; deliver 1; rounds 1 0; row 2 0 1 0 0 | 2 0 1 1 0
            deliver 1 = 2; rounds 1 0
            row 2 0 1 0 0; deliver 0 = 2; rounds 1 2; row 2 1 0 1 0; deliver 0; rounds 2 2
            """);
        says(16, sentence, "a program's letter of round 1 at round 0", """
            path 2; words (15 4 2) (17 1) (2 0 0 1) (19 2) (15 4 1) (18 2); prepare 0 2; stopAt 2
            deliver 1; deliver 1 = 0
            rounds 1 0; deliver 0; rounds 1 1; values 0 0 0; deliverAll 0 0 2000; rounds 2 2
            values 0 1 1
            """);
        says(16, sentence,
                "READY of round 1 from a child that is ahead: the root has all of round 0 first", """
            hub 3; prepare 1 2; stopAt 2; deliver 0; deliver 0; rounds 1 0 0
            row 4 0 1 0 0 | 4 0 2 0 0; deliver 0
            row 4 0 2 0 0 | 3 1 0 1 0; deliver 1; rounds 1 1 0; row 4 0 2 0 0; deliver 0
            row 3 2 0 1 0; deliver 0
            rounds 2 1 1
            """);
        says(16, sentence, "NEIGHBOUR of round 1 from a cluster that is ahead", """
            path 2; prepare 2 8 = 2; stopAt 2; row 6 0 1 0 0 | 6 1 0 0 0; deliver 1; rounds 1 0
            row 6 0 1 0 0 | 6 0 1 1 0; deliver 1; rounds 1 0; deliver 0; rounds 1 2; row 6 1 0 1 0
            deliver 0; rounds 2 2
            """);
        says(16, sentence, "NEIGHBOUR of round 0 ahead of CLUSTER and READY", """
            path 3; prepare 2 2; stopAt 1; row 3 1 0 0 0 | 6 2 1 0 0; deliver 1 = 6; letters = 1
            deliver 0 = 3
            row 5 0 1 0 0; deliver 0 = 5; row 6 1 2 0 0 | 7 1 0 0 0
            """);
    }

    private static void promise16ByNodes() {
        String safe = "WAY 0, NODES: when it is safe, and k is below STOP, it sends SAFE (2) to"
                + " all neighbours, by ports;";
        says(16, safe, "by ports, not by numbers", """
            net 4; link 1 3; link 1 0; link 2 1; prepare 0 2; stopAt 1
            row 2 0 1 0 0 | 2 1 3 0 0 | 2 1 0 0 0 | 2 1 2 0 0 | 2 2 1 0 0 | 2 3 1 0 0
            """);
        says(16, safe, "at STOP it sends none, one below it does", """
            path 2; prepare 0 2; stopAt 2; deliver 0; deliver 0; rounds 1 1
            row 2 1 0 1 0 | 2 0 1 1 0
            deliver 0; deliver 0; rounds 2 2; letters = 0; count 2 = 4
            """);
        String next = "when it did so and SAFE of round k came from all neighbours, it does the"
                + " next round.";
        says(16, next, "all but one came", """
            hub 4; prepare 0 2; stopAt 1; deliver 3; deliver 3; roundOf 0 = 0; deliver 3
            roundOf 0 = 1; rounds 1 0 0 0
            """);
        says(16, next, "all came, but it is not safe itself", """
            path 2; words (20 3) (14 3 2) (15 4 1) (18 0); prepare 0 2; stopAt 2; deliver 0
            deliver 0; rounds 1 1
            row 0 1 0 1 0 | 2 0 1 1 0; deliver 1 = 2; rounds 1 1; deliver 0 = 0; deliver 0 = 1
            rounds 1 2; row 2 1 0 1 0 | 0 1 0 2 0
            """);
        says(16, next, "no neighbours", """
            net 1; prepare 0 2; stopAt 1; rounds 1; stopAt 2; rounds 2; count 2 = 0
            """);
        says(16, "There are three WAYS, by which a node that has done round k comes to round k +"
                + " 1;",
                "one round more for each STOP more, by each way", """
            path 2; prepare 0 2; stopAt 1; deliverAll 0 0 9 = 2; rounds 1 1; stopAt 3
            deliverAll 0 0 9 = 4; rounds 3 3; release
            prepare 1 2; stopAt 1; deliverAll 0 0 9 = 2; rounds 1 1; stopAt 3; deliverAll 0 0 9 = 4
            rounds 3 3; release
            prepare 2 2; stopAt 1; deliverAll 0 0 9 = 4; rounds 1 1; stopAt 3; deliverAll 0 0 9 = 8
            rounds 3 3
            """);
    }

    private static void promise16ByTree() {
        String ready = "When it is safe, k is below STOP, and READY (3) of round k came from all"
                + " children:"
                + " it sends READY to its parent;";
        says(16, ready, "all but one came", """
            net 4; link 0 1; link 1 2; link 1 3; prepare 1 2; stopAt 1; row 3 2 1 0 0 | 3 3 1 0 0
            deliver 1; row 3 2 1 0 0
            deliver 0; row 3 1 0 0 0
            """);
        says(16, ready, "all came, but it is not safe itself", """
            path 3; words (0 1 1) (20 2) (8 2 2 1) (14 2 2) (15 4 1) (18 0); prepare 1 2; stopAt 2
            deliverAll 0 0 3 = 3
            rounds 1 1 0; row 4 1 2 0 0 | 0 1 0 1 0 | 0 1 2 1 0; deliver 0
            row 0 1 0 1 0 | 0 1 2 1 0 | 3 2 1 1 0
            deliver 2 = 3; deliver 0; deliver 1 = 1; row 0 1 2 1 0; deliver 0; deliver 0 = 1
            row 3 1 0 1 0
            """);
        says(16, ready, "at STOP it sends none", """
            path 2; prepare 1 2; stopAt 1; deliverAll 0 0 9 = 2; letters = 0; stopAt 2
            row 3 1 0 1 0
            """);
        String root = "the root instead sends GO (4) to its children, by their numbers, and then"
                + " does the next round"
                + " (its letters go behind these, as always).";
        says(16, root, "by numbers, not by ports; its letters by ports behind them", """
            net 4; link 0 3; link 0 1; link 2 0; words (15 4 1) (18 4); prepare 1 2; stopAt 1
            deliver 2; deliver 1; letters = 1
            deliver 0; row 4 0 1 0 0 | 4 0 2 0 0 | 4 0 3 0 0 | 0 0 3 1 0 | 0 0 1 1 1 | 0 0 2 1 2
            rounds 1 0 0 0
            """);
        says(16, root, "no children: it goes on alone up to STOP", """
            net 1; prepare 1 2; stopAt 7; rounds 7; letters = 0
            """);
        says(16, root, "it has READY of all, but is not safe", """
            path 2; words (20 3) (0 1 1) (7 3 3 1) (14 3 2) (15 4 1) (18 0); prepare 1 2; stopAt 2
            deliver 0; deliver 0
            rounds 1 1; row 0 0 1 1 0 | 3 1 0 1 0; deliver 1; rounds 1 1; row 0 0 1 1 0; deliver 0
            deliver 0 = 1; rounds 2 1
            row 4 0 1 1 0 | 0 0 1 2 0
            """);
        String go = "When GO comes, a node sends GO to its children, and does the next round."
                + " (GO has the round k.)";
        says(16, go, "to its children, by numbers, ahead of its letters", """
            net 4; link 1 3; link 1 2; link 0 1; words (15 4 1) (18 4); prepare 1 2; stopAt 1
            deliverAll 0 0 3 = 3
            row 4 0 1 0 0 | 0 0 1 1 0; deliver 0
            row 0 0 1 1 0 | 4 1 2 0 0 | 4 1 3 0 0 | 0 1 3 1 0 | 0 1 2 1 1 | 0 1 0 1 2
            rounds 1 1 0 0
            """);
        says(16, go, "a leaf", """
            path 2; prepare 1 2; stopAt 1; deliver 0; row 4 0 1 0 0; deliver 0; letters = 0
            rounds 1 1
            """);
    }

    private static void promise16ByClusters() {
        says(16, "WAY 2, CLUSTERS: each cluster has a LEADER and a tree.",
                "of one node and of more", """
            path 3; prepare 2 2 = 2; places 0 -1 0 0 -1 0 0; places 1 0 1 0 0 1 1
            places 2 1 2 1 -1 0 1
            """);
        String ready = "When a node is safe, k is below STOP, and READY came from its children"
                + " in that tree:"
                + " it sends READY to its parent there;";
        says(16, ready, "from all children there alone, to the parent there alone", """
            net 5; link 0 3; link 0 1; link 0 2; link 1 4; link 2 4; prepare 2 2 = 2; place 4 2 = 1
            place 4 0 = 1; stopAt 1
            row 3 1 0 0 0 | 3 2 0 0 0 | 3 3 0 0 0 | 6 4 1 0 0; deliver 0; deliver 0; letters = 2
            deliver 0 = 3
            row 6 4 1 0 0 | 5 0 1 0 0 | 5 0 2 0 0 | 5 0 3 0 0
            """);
        says(16, ready, "two layers deep, all but one came", """
            net 7; link 0 1; link 1 2; link 1 3; link 0 4; link 4 5; link 4 6; prepare 2 2 = 1
            stopAt 1
            row 3 2 1 0 0 | 3 3 1 0 0 | 3 5 4 0 0 | 3 6 4 0 0; deliver 0; letters = 3; deliver 0
            row 3 5 4 0 0 | 3 6 4 0 0 | 3 1 0 0 0
            """);
        says(16, ready, "at STOP it sends none", """
            path 2; prepare 2 2; stopAt 1; deliverAll 0 0 9 = 4; rounds 1 1; letters = 0; stopAt 2
            row 3 1 0 1 0
            """);
        String told = "the leader instead is TOLD that the cluster is safe.";
        says(16, told, "alone in its cluster, and with STOP 0 not yet", """
            path 2; prepare 2 8 = 2; stopAt 0; letters = 0; stopAt 1; row 6 0 1 0 0 | 6 1 0 0 0
            """);
        says(16, told, "not while it is not safe itself", """
            path 2; words (20 3) (0 1 1) (7 3 3 1) (14 3 2) (15 4 1) (18 0); prepare 2 2 = 1
            stopAt 2; deliverAll 0 0 4 = 4
            rounds 1 1; row 0 0 1 1 0 | 3 1 0 1 0; deliver 1; row 0 0 1 1 0; deliver 0
            deliver 0 = 1; row 5 0 1 1 0
            """);
        String cluster = "A node that is told (or to which CLUSTER (5) comes) sends CLUSTER to"
                + " its children, by numbers,"
                + " then NEIGHBOUR (6) over its CHOSEN links, by ports.";
        says(16, cluster, "by numbers and by ports, over the chosen links alone", """
            net 7; link 0 6; link 0 5; link 0 4; link 6 2; link 6 1; link 6 3; link 5 1
            prepare 2 4 = 4
            place 6 5 = 3; place 5 5 = 0; stopAt 1
            row 6 1 6 0 0 | 6 2 6 0 0 | 6 3 6 0 0 | 3 4 0 0 0 | 3 5 0 0 0 | 3 6 0 0 0
            deliver 3; deliver 3; deliver 3
            row 6 1 6 0 0 | 6 2 6 0 0 | 6 3 6 0 0 | 5 0 4 0 0 | 5 0 5 0 0 | 5 0 6 0 0
            deliver 5 = 5
            row 6 1 6 0 0 | 6 2 6 0 0 | 6 3 6 0 0 | 5 0 4 0 0 | 5 0 5 0 0 | 6 6 2 0 0 | 6 6 1 0 0 | 6 6 3 0 0
            """);
        says(16, cluster, "a leader with children and chosen links of its own", """
            net 6; link 2 5; link 0 1; link 1 2; link 2 4; link 2 3; prepare 2 2 = 2
            places 2 1 2 1 -1 0 1; stopAt 1
            row 3 1 0 0 0 | 3 3 2 0 0 | 3 4 2 0 0 | 3 5 2 0 0; deliver 1; deliver 1; deliver 1
            row 3 1 0 0 0 | 5 2 3 0 0 | 5 2 4 0 0 | 5 2 5 0 0 | 6 2 1 0 0
            """);
        String all = "When it was told, NEIGHBOUR of round k came over all its chosen links and"
                + " ALL (7) from all its"
                + " children, it sends ALL to its parent;";
        says(16, all, "all but one NEIGHBOUR came", """
            net 7; link 0 6; link 0 5; link 0 4; link 6 2; link 6 1; link 6 3; prepare 2 4 = 4
            stopAt 1
            deliver 3 = 3; deliver 3 = 3; deliver 3 = 3; deliver 5 = 5; deliver 0 = 6; deliver 0 = 6
            row 6 3 6 0 0 | 5 0 4 0 0 | 5 0 5 0 0 | 6 6 2 0 0 | 6 6 1 0 0 | 6 6 3 0 0; deliver 0 = 6
            row 5 0 4 0 0 | 5 0 5 0 0 | 6 6 2 0 0 | 6 6 1 0 0 | 6 6 3 0 0 | 7 6 0 0 0
            """);
        says(16, all, "all NEIGHBOUR came, but it was not told", """
            path 3; prepare 2 2; stopAt 1; deliver 1 = 6; row 3 1 0 0 0; rounds 0 0 0
            """);
        says(16, all, "all but one ALL came", """
            net 7; link 0 1; link 1 2; link 1 3; link 0 4; link 4 5; link 4 6; prepare 2 2 = 1
            stopAt 1
            deliverAll 0 0 6 = 6; row 5 0 1 0 0 | 5 0 4 0 0; deliver 0
            row 5 0 4 0 0 | 5 1 2 0 0 | 5 1 3 0 0; deliver 1
            deliver 2 = 7; row 5 0 4 0 0 | 5 1 3 0 0; deliver 1; deliver 1 = 7
            row 5 0 4 0 0 | 7 1 0 0 0
            """);
        String go = "the leader instead sends GO to its children, and does the next round; when"
                + " GO comes, likewise.";
        says(16, go, "by numbers, ahead of its letters; two layers deep", """
            net 7; link 0 4; link 4 6; link 4 5; link 0 1; link 1 2; link 1 3; words (15 4 1) (18 4)
            prepare 2 2 = 1; stopAt 1
            deliverAll 0 0 18 = 18; rounds 1 0 0 0 0 0 0
            row 4 0 1 0 0 | 4 0 4 0 0 | 0 0 4 1 0 | 0 0 1 1 1; deliver 1
            row 4 0 1 0 0 | 0 0 4 1 0 | 0 0 1 1 1 | 4 4 5 0 0 | 4 4 6 0 0 | 0 4 0 1 0 | 0 4 6 1 1 | 0 4 5 1 2
            """);
        says(16, go, "of two clusters one is ahead", """
            path 4; prepare 2 2 = 2; stopAt 1; row 3 1 0 0 0 | 3 3 2 0 0; deliver 0; deliver 0
            row 5 0 1 0 0 | 5 2 3 0 0 | 6 2 1 0 0
            deliver 0; deliver 1; deliver 2 = 7; rounds 1 0 0 0
            row 5 2 3 0 0 | 6 1 2 0 0 | 4 0 1 0 0
            """);
        says(16, go, "alone, without chosen links: it goes on up to STOP", """
            net 1; prepare 2 2; stopAt 9; rounds 9; letters = 0
            """);
    }

    private static void promise16AtOnce() {
        String sentence = "What a node can do is done at once, as long as there is something.";
        says(16, sentence, "two rounds behind one letter", """
            path 2; prepare 0 2; stopAt 3; deliver 1; deliver 1 = 2; rounds 1 0; deliver 0
            rounds 1 2
            row 2 1 0 1 0 | 2 1 0 2 0
            """);
        says(16, sentence, "500 rounds behind one call", """
            net 1; prepare 0 2; stopAt 500; rounds 500
            """);
        says(16, sentence, "GO, the round and READY of the next behind one letter", """
            path 2; prepare 1 2; stopAt 2; deliver 0; deliver 0; row 3 1 0 1 0; rounds 1 1
            """);
    }

    private static void promise18Border() {
        String sentence = "From a BORDER on, one round above the greatest that a node has done,"
                + " nodes leave their rounds"
                + " by another way";
        says(18, sentence, "at first it is 1: round 0 is left by the old way", """
            path 2; prepare 0 2; switchTo 1 = 1; stopAt 2; row 2 0 1 0 0 | 2 1 0 0 0; deliver 0
            deliver 0; rounds 1 1
            row 3 1 0 1 0
            """);
        says(18, sentence, "one node is ahead", """
            path 3; prepare 0 2; stopAt 3; deliver 3; deliver 0; rounds 0 1 0; switchTo 1 = 2
            deliverAll 0 0 2000
            rounds 3 3 3; count 2 = 12
            """);
        says(18, sentence, "at round 500 it is 501", """
            net 1; prepare 0 2; stopAt 500; switchTo 2 = 501; rounds 500
            """);
        says(18, sentence, "at STOP: the round at which all wait is still left by the old way", """
            path 2; prepare 0 2; stopAt 3; deliverAll 0 0 2000 = 6; switchTo 1 = 4; stopAt 4
            row 2 0 1 3 0 | 2 1 0 3 0
            deliverAll 0 0 2000 = 2; rounds 4 4; stopAt 5; row 3 1 0 4 0
            """);
        says(18, sentence, "to the way that it has", """
            path 2; prepare 0 2; switchTo 0 = 1; stopAt 2; deliverAll 0 0 2000 = 4; rounds 2 2
            count 2 = 4
            """);
        String later = "(of two with one border the later one counts): the border.";
        says(18, later, "two", """
            path 2; prepare 0 2; switchTo 2 = 1; switchTo 1 = 1; stopAt 2; deliver 0; deliver 0
            row 3 1 0 1 0
            """);
        says(18, later, "back to the old way", """
            path 2; prepare 0 2; switchTo 1 = 1; switchTo 0 = 1; stopAt 2; deliver 0; deliver 0
            row 2 1 0 1 0 | 2 0 1 1 0
            """);
        says(18, later, "8 with one border", """
            path 2; prepare 0 2; switchTo 1 = 1; 6 x switchTo 2 = 1; switchTo 1 = 1; stopAt 2
            deliver 0; deliver 0
            row 3 1 0 1 0
            """);
        says(18, later, "8 borders, each with its own way", """
            path 2; prepare 0 2; stopAt 1; deliverAll 0 0 99 = 2; switchTo 1 = 2; stopAt 2
            deliverAll 0 0 99 = 2; switchTo 2 = 3
            stopAt 3; deliverAll 0 0 99 = 2; switchTo 0 = 4; stopAt 4; deliverAll 0 0 99 = 4
            switchTo 1 = 5
            stopAt 5; deliverAll 0 0 99 = 2; switchTo 2 = 6; stopAt 6; deliverAll 0 0 99 = 2
            switchTo 0 = 7
            stopAt 7; deliverAll 0 0 99 = 4; switchTo 2 = 8; stopAt 8; row 2 0 1 7 0 | 2 1 0 7 0
            deliverAll 0 0 99 = 2
            switchTo 1 = 9; stopAt 9; row 3 1 0 8 0; deliverAll 0 0 99 = 4; rounds 9 9
            switchTo 0 ! Unsupported
            stopAt 10; row 3 1 0 9 0; deliverAll 0 0 99 = 2; count 2 = 26
            """);
    }

    private static void promise18BetweenWays() {
        String sentence = "From a BORDER on, one round above the greatest that a node has done,"
                + " nodes leave their rounds"
                + " by another way";
        String walks = walks();
        for (int from = 0; from < 3; from++) {
            for (int to = 0; to < 3; to++) {
                for (int rule = 0; rule < 3; rule++) {
                    says(18, sentence, "from way " + from + " to " + to + ", rule " + rule,
                            "ring 5; builtin 3; input 0 0 1; prepare " + from + " 2; stopAt 9; deliverAll 2 5 40 = 40;"
                            + " switchTo " + to + "; deliverAll " + rule + " 9 2000; letters = 0; rounds 9 9 9 9 9;"
                            + " lockstep 9; values 0 " + walks + "; plains 0 " + walks);
                }
            }
        }
    }

    /** Walks of 8 steps from node 0 in a ring of 5, reckoned apart from both writings. */
    private static String walks() {
        long[] now = {1, 0, 0, 0, 0};
        for (int step = 0; step < 8; step++) {
            long[] next = new long[5];
            for (int i = 0; i < 5; i++) {
                next[i] = now[(i + 1) % 5] + now[(i + 4) % 5];
            }
            now = next;
        }
        return now[0] + " " + now[1] + " " + now[2] + " " + now[3] + " " + now[4];
    }

    private static void promise18Refused() {
        String argument = "IllegalArgumentException when it is not 0 .. 2;";
        says(18, argument, "beyond", """
            path 2; prepare 0 2; switchTo -1 ! Argument; switchTo 3 ! Argument
            switchTo MIN ! Argument; switchTo MAX ! Argument
            stopAt 2; deliverAll 0 0 99 = 4; count 2 = 4
            """);
        says(18, argument, "0, 1, 2 are taken", """
            path 2; prepare 0 2; switchTo 0 = 1; switchTo 1 = 1; switchTo 2 = 1
            """);
        says(18, "IllegalStateException;", "without a run", """
            switchTo 0 ! State; path 2; switchTo 0 ! State; prepare 0 2; switchTo 0 = 1; release
            switchTo 0 ! State
            """);
        says(18, argument + " IllegalStateException;", "the first of both", """
            switchTo 3 ! Argument; path 2; switchTo -1 ! Argument
            """);
        String full = "UnsupportedOperationException when this was done 8 times.";
        says(18, full, "the 8th is taken, the 9th is not", """
            path 2; prepare 0 2; 7 x switchTo 1 = 1; switchTo 2 = 1; switchTo 0 ! Unsupported
            switchTo 2 ! Unsupported
            stopAt 2; deliverAll 0 0 2 = 2; row 3 1 0 1 0; deliver 0; row 5 0 1 1 0
            """);
        says(18, full, "refused ones do not count", """
            switchTo 1 ! State; path 2; prepare 0 2; 9 x switchTo 3 ! Argument; 8 x switchTo 1 = 1
            switchTo 1 ! Unsupported
            """);
        says(18, full, "the argument is ahead of it", """
            path 2; prepare 0 2; 8 x switchTo 1 = 1; switchTo 3 ! Argument; switchTo -1 ! Argument
            """);
        says(18, full, "the state is ahead of it", """
            path 2; prepare 0 2; 8 x switchTo 1 = 1; release; switchTo 1 ! State
            """);
        says(18, full, "of each run anew", """
            path 2; prepare 0 2; 8 x switchTo 1 = 1; release; prepare 0 2; 8 x switchTo 1 = 1
            switchTo 1 ! Unsupported
            """);
    }
}
