/** Boundary cases of promises 19 to 23: rounds, values, trees, clusters, chosen links, counts. */
final class BoundaryPlaces {
    private BoundaryPlaces() {
    }

    static void all() {
        promise19();
        promise20();
        promise21Tree();
        promise21Clusters();
        promise21ClusterTrees();
        promise21Refused();
        promise22();
        promise22Refused();
        promise23Sent();
        promise23Widest();
        promise23ForARound();
        promise23Refused();
    }

    private static void says(int promise, String sentence, String name, String script) {
        BoundaryTest.says(promise, sentence, name, script);
    }

    private static void promise19() {
        String sentence = "The latest round that a node has done.";
        says(19, sentence, "0, 1, 500", """
            net 1; prepare 0 2; roundOf 0 = 0; stopAt 0; roundOf 0 = 0; stopAt 1; roundOf 0 = 1
            stopAt 500; roundOf 0 = 500
            """);
        says(19, sentence, "of the first node and the last of 24", """
            path 24; prepare 1 2; stopAt 1; deliverAll 0 0 23 = 23; roundOf 0 = 1; roundOf 23 = 0
            deliverAll 0 0 23 = 23
            roundOf 23 = 1
            """);
        says(19, "NoSuchElementException", "beyond the nodes", """
            path 2; prepare 0 2; roundOf 2 ! Element; roundOf -1 ! Element; roundOf MIN ! Element
            roundOf MAX ! Element
            roundOf 1 = 0
            """);
        says(19, "NoSuchElementException; IllegalStateException.", "the first of both", """
            roundOf 0 ! Element; net 2; roundOf 2 ! Element; roundOf -1 ! Element
            """);
        says(19, "IllegalStateException.", "without a run", """
            path 2; roundOf 0 ! State; roundOf 1 ! State; prepare 0 2; stopAt 1; deliver 0; release
            roundOf 1 ! State
            """);
    }

    private static void promise20() {
        String sentence = "A node's register, as its latest round left it.";
        says(20, sentence, "round 0: the inputs", """
            path 24; input 0 0 MIN; input 23 7 MAX; prepare 0 2; value 0 0 = MIN; value 23 7 = MAX
            value 0 7 = 0; value 23 0 = 0
            """);
        says(20, sentence, "of two nodes one is a round ahead", """
            path 2; words (19 7) (20 0); input 0 7 9; input 1 7 9; prepare 0 2; stopAt 1; deliver 0
            values 7 9 1; values 0 0 1
            deliver 0; values 7 1 1
            """);
        says(20, sentence, "the plain run does not change it", """
            path 2; words (19 7); prepare 0 2; lockstep 300; values 7 0 0; plains 7 300 300
            """);
        says(20, "NoSuchElementException", "beyond the nodes", """
            path 2; prepare 0 2; value 2 0 ! Element; value -1 0 ! Element; value MIN 0 ! Element
            value MAX 0 ! Element
            value 1 0 = 0
            """);
        says(20, "IndexOutOfBoundsException when r is not 0 .. 7", "beyond the registers", """
            path 2; prepare 0 2; value 0 8 ! Index; value 0 -1 ! Index; value 1 8 ! Index
            value 1 -1 ! Index
            value 1 MIN ! Index; value 1 MAX ! Index; value 1 0 = 0; value 1 7 = 0
            """);
        says(20, "IllegalStateException.", "without a run", """
            path 2; value 0 0 ! State; value 1 7 ! State; prepare 0 2; release; value 1 7 ! State
            """);
        says(20, "NoSuchElementException; IndexOutOfBoundsException when r is not 0 .. 7",
                "the first of both", """
            value 0 8 ! Element; path 2; value 2 8 ! Element; prepare 0 2; value 2 8 ! Element
            value -1 -1 ! Element
            """);
        says(20, "IndexOutOfBoundsException when r is not 0 .. 7; IllegalStateException.",
                "the first of both", """
            path 2; value 1 8 ! Index; value 0 -1 ! Index
            """);
    }

    private static void promise21Tree() {
        String sentence = "Of a node: 0 its parent in the tree (-1), 1 its depth there,";
        says(21, sentence, "the root, alone", "net 1; prepare 0 2; place 0 0 = -1; place 0 1 = 0");
        says(21, sentence, "23 deep, the deepest", """
            path 24; prepare 0 2; place 23 0 = 22; place 23 1 = 23; place 1 0 = 0; place 0 0 = -1
            """);
        says(21, sentence, "23 next to the root", """
            hub 24; prepare 0 2; place 23 0 = 0; place 23 1 = 1; place 1 1 = 1
            """);
        String tree = "WAY 1, TREE: the whole net's TREE has node 0 as its root; the depth of a"
                + " node is its distance"
                + " from there, its parent the neighbour of the least number with a depth one"
                + " less.";
        says(21, tree, "two parents fit: the least number, not the first link", """
            net 4; link 3 2; link 3 1; link 0 2; link 0 1; prepare 1 2; place 3 0 = 1; place 3 1 = 2
            """);
        says(21, tree, "a neighbour of a less number with the same depth is no parent", """
            net 4; link 0 3; link 0 2; link 2 3; link 1 2; link 1 3; prepare 1 2; place 3 0 = 0
            place 2 0 = 0; place 1 0 = 2
            place 1 1 = 2
            """);
        says(21, tree, "both ends of a ring of 6 meet at depth 3", """
            ring 6; prepare 1 2; place 3 0 = 2; place 3 1 = 3; place 4 0 = 5; place 4 1 = 2
            place 5 0 = 0; place 5 1 = 1
            """);
        says(21, tree, "whatever the clusters are", """
            path 3; prepare 1 8 = 3; places 2 1 2 2 -1 0 1
            """);
    }

    private static void promise21Clusters() {
        String behind = "CLUSTERS for a number p are made one behind the other, of nodes that"
                + " are in none:";
        says(21, behind, "the second has what the first left", """
            ring 5; prepare 2 2 = 2; place 0 2 = 0; place 1 2 = 0; place 4 2 = 0; place 2 2 = 1
            place 3 2 = 1
            """);
        says(21, behind, "a node that is in one is not taken again", """
            hub 4; link 1 2; link 2 3; prepare 2 8 = 4; place 0 2 = 0; place 1 2 = 1; place 2 2 = 2
            place 3 2 = 3
            """);
        says(21, "the node of the least number is the leader, and the BALL;",
                "of those that are in none", """
            net 6; link 0 5; link 5 3; link 3 1; link 1 4; link 4 2; prepare 2 2 = 3
            place 0 3 = -1; place 5 2 = 0; place 1 2 = 1; place 1 3 = -1; place 1 4 = 0
            place 3 2 = 1; place 4 2 = 1
            place 2 2 = 2; place 2 3 = -1
            """);
        says(21, "the LAYER is all nodes that are in none and next to the ball;",
                "next to any node of the ball", """
            net 6; link 0 1; link 1 2; link 0 3; link 3 4; link 4 5; prepare 2 2; place 1 2 = 0
            place 3 2 = 0; place 2 2 = 1
            place 4 2 = 2; place 5 2 = 2
            """);
        String grow = "while the layer has p - 1 times as many nodes as the ball, or more (and"
                + " not none),"
                + " it comes to the ball; the ball is the cluster.";
        says(21, grow, "p 2: just as many come, one less do not", """
            net 7; link 0 1; link 1 2; link 0 3; link 3 4; link 0 5; link 5 6; prepare 2 2 = 4
            place 1 2 = 0; place 3 2 = 0
            place 5 2 = 0; place 2 2 = 1; place 4 2 = 2; place 6 2 = 3; release; net 4; link 0 1
            link 1 2; link 1 3
            prepare 2 2 = 1; place 3 4 = 2
            """);
        says(21, grow, "p 3: twice as many come, one less do not", """
            hub 3; prepare 2 3 = 1; release; hub 2; prepare 2 3 = 2; release
            net 9; link 0 1; link 0 2; link 1 3; link 1 4; link 1 5; link 2 6; link 2 7; link 2 8
            prepare 2 3 = 1
            place 8 4 = 2; release; net 8; link 0 1; link 0 2; link 1 3; link 1 4; link 1 5
            link 2 6; link 2 7; prepare 2 3 = 6
            """);
        says(21, grow, "p 8: 7 come to one; 56 would have to come then", """
            net 24; pairs 7; link 7 8; link 7 9; link 7 10; link 7 11; link 7 12; link 7 13
            link 7 14; link 7 15; link 7 16
            link 7 17; link 7 18; link 7 19; link 7 20; link 7 21; link 7 22; link 7 23
            prepare 2 8 = 17; place 7 2 = 0
            place 8 2 = 1; place 23 2 = 16; release; prepare 2 3 = 1; place 23 4 = 2
            """);
        says(21, grow, "a layer of none ends it", """
            path 2; prepare 2 2 = 1; place 1 2 = 0; release; net 1; prepare 2 2 = 1
            """);
        says(21, "2 its cluster (from 0, as they were made),", "the first and the 24th", """
            path 24; prepare 0 8 = 24; place 0 2 = 0; place 23 2 = 23
            """);
    }

    private static void promise21ClusterTrees() {
        String tree = "In its tree the depth is by these layers, the parent the neighbour of the"
                + " least number in the"
                + " layer before.";
        says(21, tree, "two parents fit: the least number, not the first link", """
            net 4; link 3 2; link 3 1; link 0 2; link 0 1; prepare 2 2 = 2; release
            net 7; link 6 5; link 6 4; link 0 5; link 0 4; link 4 1; link 5 2; link 5 3
            prepare 2 2 = 1; place 6 3 = 4; place 6 4 = 2
            place 1 3 = 4; place 2 3 = 5; place 3 3 = 5
            """);
        says(21, tree, "not a neighbour of another cluster, whatever its number and depth", """
            ring 5; prepare 2 2 = 2; place 2 3 = -1; place 3 3 = 2; place 3 4 = 1; place 3 0 = 4
            place 3 1 = 2
            """);
        says(21, "3 its parent there (-1), 4 its depth there,",
                "a leader and a member, the first and the last", """
            path 24; prepare 0 2 = 12; place 0 3 = -1; place 0 4 = 0; place 23 3 = 22
            place 23 4 = 1; place 22 3 = -1
            place 22 4 = 0
            """);
        says(21, "5 how many chosen links it has.", "none, one, two", """
            hub 24; prepare 0 2 = 1; place 0 5 = 0; place 23 5 = 0; release
            path 24; prepare 0 8 = 24; place 0 5 = 1; place 1 5 = 2; place 23 5 = 1
            """);
        String links = "";
        for (int node = 22; node >= 0; node--) {
            links += node % 2 == 0 ? "link 23 " + node + "; " : "link " + node + " 23; ";
        }
        says(21, "5 how many chosen links it has.", "23, the most", "net 24; " + links + """
            prepare 2 8 = 24; place 23 5 = 23; place 0 5 = 1; place 22 5 = 1; count 6 = 46
            chosen 23 0 = 22
            chosen 22 23 = 0; stopAt 2; letter 0 2 = 23; letter 23 2 = 22; letter 45 2 = 0
            deliverAll 0 0 22 = 22; roundOf 23 = 0; deliver 0 = 6; roundOf 23 = 1; count 2 = 69
            """);
        says(21, "5 how many chosen links it has.", "6 clusters around a node", """
            hub 7; prepare 0 8 = 7; place 0 5 = 6; place 6 5 = 1; count 6 = 12
            """);
        says(21, "5 how many chosen links it has.", "of two links between two clusters one", """
            ring 4; prepare 0 3 = 2; places 0 -1 0 0 -1 0 0; place 1 5 = 1; place 2 5 = 1
            place 3 5 = 0
            """);
    }

    private static void promise21Refused() {
        says(21, "NoSuchElementException", "beyond the nodes", """
            path 2; prepare 0 2; place 2 0 ! Element; place -1 0 ! Element; place MIN 0 ! Element
            place MAX 0 ! Element
            place 1 0 = 0
            """);
        says(21, "IndexOutOfBoundsException for another what", "just beyond", """
            path 2; prepare 0 2; place 0 6 ! Index; place 0 -1 ! Index; place 1 MIN ! Index
            place 1 MAX ! Index; place 1 5 = 0
            """);
        says(21, "IllegalStateException.", "without a run", """
            path 2; place 0 0 ! State; place 1 5 ! State; prepare 0 2; release; place 1 5 ! State
            """);
        says(21, "NoSuchElementException; IndexOutOfBoundsException for another what;"
                + " IllegalStateException.",
                "the first of those that fit", """
            place 0 6 ! Element; path 2; place 2 6 ! Element; place 2 0 ! Element; place 1 6 ! Index
            place 0 -1 ! Index
            prepare 0 2; place 2 6 ! Element; place -1 -1 ! Element
            """);
    }

    private static void promise22() {
        says(22, "The chosen link between two clusters;", "link 0, and the last of 24 clusters", """
            path 24; prepare 0 8 = 24; chosen 0 1 = 0; chosen 1 0 = 0; chosen 23 22 = 22
            chosen 22 23 = 22
            """);
        says(22, "The chosen link between two clusters;", "link 59", """
            net 24; pairs 22; link 1 2; link 1 3; link 1 4; link 1 5; link 1 6; link 1 7; link 1 8
            link 1 9; link 1 10; link 1 11
            link 1 12; link 1 13; link 1 14; link 1 15; link 1 16; link 1 17; link 1 18; link 1 19
            link 1 20; link 1 21; link 1 22
            link 2 3; link 2 4; link 2 5; link 2 6; link 2 7; link 2 8; link 2 9; link 2 10
            link 2 11; link 2 12; link 2 13
            link 2 14; link 2 15; link 2 16; link 2 17; link 2 18; link 22 23 = 59; prepare 0 2 = 2
            chosen 0 1 = 59; chosen 1 0 = 59
            place 23 5 = 1; place 22 5 = 1; count 6 = 90
            """);
        String least = "Of all links between two clusters the one of the least number is chosen.";
        says(22, least, "of four, whichever end came first", """
            net 6; link 0 1; link 0 2; link 3 4; link 3 5; link 5 2; link 4 1; link 2 4; link 1 3
            prepare 0 3 = 2; chosen 0 1 = 4
            place 5 5 = 1; place 2 5 = 1; place 4 5 = 0; place 1 5 = 0; count 6 = 18
            """);
        says(22, least, "it is link 0", """
            net 4; link 1 3; link 0 1; link 2 0; link 3 2; prepare 0 3 = 2; chosen 0 1 = 0
            chosen 1 0 = 0
            place 1 5 = 1; place 2 5 = 0; place 3 5 = 1; count 6 = 10
            """);
        says(22, least, "the least has the greatest nodes", """
            net 4; link 2 3; link 0 2; link 1 3; link 0 1; prepare 0 8 = 4; chosen 2 3 = 0
            chosen 0 2 = 1; chosen 1 3 = 2
            chosen 0 1 = 3; chosen 0 3 = -1; chosen 1 2 = -1
            """);
        says(22, "-1 when there is none (as of one with itself).", "far apart, and with itself", """
            path 3; prepare 0 8 = 3; chosen 0 2 = -1; chosen 2 0 = -1; chosen 0 0 = -1
            chosen 2 2 = -1; release
            net 1; prepare 0 2 = 1; chosen 0 0 = -1
            """);
        says(22, "-1 when there is none (as of one with itself).", "nor one of a run before", """
            path 3; prepare 0 8 = 3; chosen 1 2 = 1; release; prepare 0 2 = 2; chosen 0 1 = 1
            chosen 1 1 = -1; release
            path 4; prepare 0 8 = 4; chosen 0 1 = 0; release; net 4; link 0 3; link 3 2; link 2 1
            prepare 0 8 = 4
            chosen 0 1 = -1; chosen 0 3 = 0
            """);
    }

    private static void promise22Refused() {
        String sentence = "IndexOutOfBoundsException when one is not there, or without a run.";
        says(22, sentence, "the first or the second is not there", """
            path 3; prepare 0 2 = 2; chosen 2 0 ! Index; chosen 0 2 ! Index; chosen -1 0 ! Index
            chosen 0 -1 ! Index
            chosen 2 2 ! Index; chosen -1 -1 ! Index; chosen MIN 0 ! Index; chosen 0 MAX ! Index
            chosen 1 0 = 1
            """);
        says(22, sentence, "with fewer clusters than the run before", """
            path 3; prepare 0 8 = 3; chosen 2 1 = 1; release; prepare 0 2 = 2; chosen 2 1 ! Index
            chosen 1 2 ! Index
            """);
        says(22, sentence, "without a run", """
            chosen 0 0 ! Index; path 3; chosen 0 0 ! Index; prepare 0 2; release; chosen 0 1 ! Index
            chosen 0 0 ! Index
            """);
    }

    private static void promise23Sent() {
        String sentence = "Of a run: letters that were sent so far: 0 program's, 1 receipts, 2"
                + " others;";
        says(23, sentence, "none", """
            path 2; builtin 1; prepare 0 2; counts 0 0 0 0; stopAt 0; counts 0 0 0 0
            """);
        says(23, sentence, "when they are sent, not when they come", """
            path 2; builtin 1; prepare 0 2; stopAt 1; counts 0 0 2 0; deliver 0; counts 1 0 2 1
            deliver 0; counts 2 0 2 1
            deliver 0; counts 2 1 2 1; deliver 0; counts 2 2 2 1; deliver 0; deliver 0
            counts 2 2 2 1
            """);
        says(23, sentence, "a letter in the place of another counts once", """
            path 2; words (15 4 2) (18 0) (18 1); prepare 0 2; stopAt 1; deliver 0; deliver 0
            count 0 = 2
            """);
        says(23, sentence, "others of kinds 3 to 7", """
            path 3; prepare 2 2; stopAt 1; count 2 = 2; deliverAll 0 0 99 = 6; counts 0 0 6 1
            """);
        says(23, sentence, "500 rounds of a path of 3", """
            path 3; builtin 1; prepare 1 2; stopAt 500; deliverAll 0 0 2000 = 2000
            deliverAll 0 0 2000 = 2000
            deliverAll 0 0 2000 = 2000; deliverAll 0 0 2000 = 0; counts 2000 2000 2000 1
            """);
    }

    private static void promise23Widest() {
        String sentence = "3 the greatest difference of two nodes' rounds that there has been;";
        says(23, sentence, "0 with one node, whatever it does", """
            net 1; prepare 0 2; stopAt 500; count 3 = 0
            """);
        says(23, sentence, "it stays when all are at one round again", """
            path 2; prepare 0 2; stopAt 1; count 3 = 0; deliver 0; count 3 = 1; deliver 0
            rounds 1 1; count 3 = 1
            """);
        says(23, sentence, "3 by nodes in a path of 4: each next to one is 1 ahead", """
            path 4; prepare 0 2; stopAt 9; deliver 1; rounds 1 0 0 0; count 3 = 1
            row 2 0 1 0 0 | 2 1 2 0 0 | 2 2 1 0 0 | 2 2 3 0 0 | 2 3 2 0 0 | 2 0 1 1 0; deliver 2
            deliver 0; rounds 1 1 0 0
            row 2 1 2 0 0 | 2 2 3 0 0 | 2 3 2 0 0 | 2 0 1 1 0 | 2 1 0 1 0 | 2 1 2 1 0; deliver 4
            rounds 2 1 0 0; count 3 = 2
            row 2 1 2 0 0 | 2 2 3 0 0 | 2 3 2 0 0 | 2 0 1 1 0 | 2 1 2 1 0 | 2 0 1 2 0
            deliver 2; deliver 0; rounds 2 1 1 0; deliver 1
            row 2 2 3 0 0 | 2 1 2 1 0 | 2 0 1 2 0 | 2 2 1 1 0 | 2 2 3 1 0
            deliver 3; rounds 2 2 1 0
            row 2 2 3 0 0 | 2 1 2 1 0 | 2 0 1 2 0 | 2 2 3 1 0 | 2 1 0 2 0 | 2 1 2 2 0; deliver 4
            rounds 3 2 1 0; count 3 = 3; deliverAll 0 0 2000; rounds 9 9 9 9; count 3 = 3
            """);
        says(23, sentence, "1 by the tree, the most there", """
            path 4; builtin 1; prepare 1 2; stopAt 20; deliverAll 2 5 2000; deliverAll 0 0 2000
            rounds 20 20 20 20; count 3 = 1
            """);
        says(23, sentence, "of each run anew", """
            path 2; prepare 0 2; stopAt 1; deliver 0; count 3 = 1; release; prepare 0 2; count 3 = 0
            """);
    }

    private static void promise23ForARound() {
        String nodes = "4, 5, 6: how many others ways 0, 1, 2 send for a round: 2 for each link;";
        says(23, nodes, "no links, one, 60", """
            net 1; prepare 0 2; count 4 = 0; release; path 2; prepare 0 2; count 4 = 2; release
            net 24; pairs 60; prepare 0 2; count 4 = 120; stopAt 1; deliverAll 0 0 2000 = 120
            count 2 = 120
            """);
        String tree = "2 for each node but one;";
        says(23, tree, "one node, two, 24", """
            net 1; prepare 1 2; count 5 = 0; stopAt 1; count 2 = 0; release; path 2; prepare 1 2
            count 5 = 2; release
            net 24; pairs 60; prepare 1 2; count 5 = 46; stopAt 1; deliverAll 2 1 2000 = 46
            count 2 = 46
            """);
        String clusters = "4 for each node but the leaders, and 2 for each chosen link.";
        says(23, clusters, "one cluster", """
            net 1; prepare 2 2; count 6 = 0; stopAt 1; count 2 = 0; release; hub 24; prepare 2 2 = 1
            count 6 = 92; stopAt 1
            deliverAll 1 0 2000 = 92; count 2 = 92; rounds 1 1 1
            """);
        says(23, clusters, "each node is a leader", """
            path 24; prepare 2 8 = 24; count 6 = 46; stopAt 1; deliverAll 2 3 2000 = 46
            count 2 = 46
            """);
        says(23, clusters, "both", """
            ring 5; prepare 2 2 = 2; count 6 = 14; stopAt 3; deliverAll 2 3 2000 = 42
            rounds 3 3 3 3 3
            """);
        says(23, clusters, "4, 5, 6 do not change with the way, nor as it runs", """
            ring 4; prepare 0 3 = 2; count 4 = 8; count 5 = 6; count 6 = 10; stopAt 5; switchTo 2
            deliverAll 0 0 99; count 4 = 8
            count 5 = 6; count 6 = 10
            """);
    }

    private static void promise23Refused() {
        String sentence = "IndexOutOfBoundsException for another what, or without a run.";
        says(23, sentence, "just beyond", """
            path 2; prepare 0 2; count 7 ! Index; count -1 ! Index; count MIN ! Index
            count MAX ! Index; count 0 = 0; count 6 = 4
            """);
        says(23, sentence, "without a run", """
            count 0 ! Index; path 2; count 4 ! Index; count 6 ! Index; count 7 ! Index; prepare 0 2
            release; count 0 ! Index
            """);
    }
}
