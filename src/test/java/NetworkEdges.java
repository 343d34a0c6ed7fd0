/** Sentences about the network and the costs in it, and those of promises 5 to 15. */
final class NetworkEdges {
    private static final String HEAD = "network 2 1;";

    private NetworkEdges() {
    }

    static void run() {
        arcs();
        ways();
        approaches();
        services();
        limits();
        oddNodes();
        counts();
        edges();
        wrongArcs();
        wrongNodes();
    }

    private static void said(String words, Runnable test) {
        Sentence.holds(Sentence.DESCRIPTION, words, test);
    }

    /** 8 nodes and 14 edges, which all go from 0 to 7: edge i for i + 1, and back for 99 - i, with demand i. */
    static String full() {
        StringBuilder text = new StringBuilder("network 8 999;depot 0;depot 3;depot 7;");
        for (int i = 0; i < 14; i++) {
            text.append("edge 0 7 ").append(i + 1).append(' ').append(99 - i).append(' ').append(i).append(';');
        }
        return text.toString();
    }

    private static void arcs() {
        said("Each edge has two arcs: the arc 2 * edge leads from a to b, the arc 2 * edge + 1 from b to a.", () -> {
            WindyTours x = Due.with(full());
            Due.is("the first arc", x.serviceCost(0), 1);
            Due.is("the second arc", x.serviceCost(1), 99);
            Due.is("the last arc but one", x.serviceCost(26), 14);
            Due.is("the last arc", x.serviceCost(27), 86);
            Due.yes("from a to b and on from b", x.mayFollow(26, 27));
            Due.yes("from b to a and on from a", x.mayFollow(27, 26));
            Due.no("from a to b and on from a", x.mayFollow(26, 0));
        });
        said("Several edges can connect the same nodes.", () -> {
            WindyTours x = Due.with(full());
            Due.is("edges", x.edgeCount(), 14);
            Due.is("the first one", x.edge(0, 2), 1);
            Due.is("the last one", x.edge(13, 2), 14);
            Due.yes("there and back by others", x.mayFollow(0, 27));
            WindyTours y = Due.with(HEAD + "edge 0 1 1 1 1;edge 1 0 1 1 1;edge 0 1 1 1 1;ban 1 0 1;");
            Due.no("a ban is for its edges", y.mayFollow(0, 2));
            Due.yes("and not for those beside them", y.mayFollow(0, 5));
        });
        said("A ban has a node, an edge and another or the same edge, which both end at the node: coming to the node by the first"
                + " edge, one may not leave it by the second edge.", () -> {
            WindyTours x = Due.with("network 2 1;edge 0 1 1 1 1;edge 0 1 1 1 1;ban 1 0 0;ban 0 0 1;");
            Due.no("the same edge", x.mayFollow(0, 1));
            Due.yes("at its other node", x.mayFollow(1, 0));
            Due.no("another edge", x.mayFollow(1, 2));
            Due.yes("the other way round", x.mayFollow(3, 0));
            Due.yes("at the other node", x.mayFollow(0, 3));
            WindyTours y = Due.with("network 8 1;" + "edge 7 0 1 1 1;".repeat(14) + "ban 7 13 13;ban 0 13 0;ban 7 0 13;");
            Due.no("the last edge at its a", y.mayFollow(27, 26));
            Due.no("from the last edge at its b", y.mayFollow(26, 1));
            Due.no("to the last edge at its a", y.mayFollow(1, 26));
            Due.yes("not to the last edge at its b", y.mayFollow(0, 27));
        });
        said("An arc y may follow an arc x if x leads to the node at which y begins, and if the turn from the edge of x to the edge"
                + " of y is not banned at this node.", () -> {
            WindyTours x = Due.with("network 3 1;edge 0 1 1 1 1;edge 1 2 1 1 1;ban 1 0 1;");
            Due.no("it leads there, but is banned", x.mayFollow(0, 2));
            Due.yes("it leads there", x.mayFollow(3, 1));
            Due.no("it leads to another node", x.mayFollow(2, 1));
            Due.no("nothing follows itself", x.mayFollow(0, 0));
            Due.yes("back by the same edge", x.mayFollow(0, 1));
        });
    }

    private static void ways() {
        said("A way is a sequence of one or more arcs, each of which may follow the one before it; its cost is the sum of the"
                + " costs of its arcs.", () -> {
            WindyTours x = Due.with(HEAD + "edge 0 1 99 1 1;");
            Due.is("one arc", x.distance(0, 1), 99);
            Due.is("one arc back", x.distance(1, 0), 1);
            WindyTours y = Due.with("network 3 1;edge 0 1 99 5 1;edge 0 2 49 1 1;edge 2 1 49 1 1;");
            Due.is("two arcs that are 1 cheaper than one", y.distance(0, 1), 98);
            Due.is("two arcs back", y.distance(1, 0), 2);
            StringBuilder chain = new StringBuilder("network 8 1;");
            for (int node = 0; node < 7; node++) {
                chain.append("edge ").append(node).append(' ').append(node + 1).append(" 99 1 1;");
            }
            Due.is("as many as there are nodes", Due.with(chain.toString()).distance(0, 7), 693);
        });
        said("it is 0 if y may follow x", () -> {
            WindyTours x = Due.with(HEAD + "edge 0 1 2 3 1;edge 0 1 5 7 1;ban 1 0 0;");
            Due.is("it may", x.deadhead(0, 3), 0);
            Due.is("it may not", x.deadhead(0, 1), 12);
            Due.is("it may back", x.deadhead(1, 0), 0);
        });
        said("(x and y can be the same arc.) There is none if there is no such way.", () -> {
            WindyTours x = Due.with(HEAD + "edge 0 1 2 3 1;");
            Due.is("there, back and there", x.deadhead(0, 0), 3);
            Due.is("back, there and back", x.deadhead(1, 1), 2);
            WindyTours y = Due.with(HEAD + "edge 0 1 2 3 1;ban 1 0 0;");
            Due.is("no way from an arc to itself", y.deadhead(0, 0), -1);
            Due.is("no way back", y.deadhead(0, 1), -1);
            Due.is("no way to itself at the end", y.deadhead(1, 1), -1);
            Due.is("a way of the two arcs alone", y.deadhead(1, 0), 0);
        });
        said("it is 0 from a node to itself, and there is none if there is no such way", () -> {
            WindyTours x = Due.with("network 3 1;edge 0 1 2 3 1;");
            for (int node = 0; node < 3; node++) {
                Due.is("from " + node + " to itself", x.distance(node, node), 0);
            }
            Due.is("to a node without edges", x.distance(0, 2), -1);
            Due.is("from a node without edges", x.distance(2, 1), -1);
            Due.is("a network without edges", Due.with(HEAD).distance(0, 1), -1);
            Due.is("to itself in a network without edges", Due.with(HEAD).distance(1, 1), 0);
        });
        Sentence.holds(11, "Returns the deadhead from x to y; -1 if there is none.", () -> {
            WindyTours x = Due.with("network 4 1;edge 0 1 1 1 1;edge 2 3 1 1 1;");
            Due.is("none", x.deadhead(0, 2), -1);
            Due.is("none back", x.deadhead(3, 1), -1);
            Due.is("the smallest", x.deadhead(0, 1), 0);
            WindyTours y = Due.with(full() + "ban 7 0 0;ban 0 13 13;");
            Due.is("by other edges", y.deadhead(0, 1), 86 + 2);
            Due.is("by other edges at the last arcs", y.deadhead(27, 26), 1 + 87);
        });
        Sentence.holds(12, "Returns the distance; -1 if there is none.", () -> {
            WindyTours x = Due.with("network 3 1;edge 0 1 1 1 1;edge 1 2 1 1 1;ban 1 0 1;");
            Due.is("banned", x.distance(0, 2), -1);
            Due.is("not banned back", x.distance(2, 0), 2);
            Due.is("from the first node to the last one", Due.with(full()).distance(0, 7), 1);
            Due.is("from the last node to the first one", Due.with(full()).distance(7, 0), 86);
        });
    }

    /** The cost of a tour from the first depot that serves one arc, for nothing. */
    private static void alone(String text, int arc, int due) {
        WindyTours x = Due.with("network 4 9;service 0;" + text);
        x.openTour(0);
        if (due < 0) {
            Due.noState("arc " + arc, () -> x.insert(0, 0, arc));
        } else {
            Due.is("arc " + arc, x.insert(0, 0, arc), due);
        }
    }

    private static void approaches() {
        said("The approach from a node to an arc is 0 if the arc begins at the node; otherwise it is the least sum of the cost of"
                + " an arc z that begins at the node and the deadhead from z to the arc.", () -> {
            String text = "edge 0 1 7 11 1;edge 1 2 13 17 1;edge 0 2 50 60 1;ban 1 0 1;depot 0;";
            alone(text, 4, 17 + 11);
            alone(text, 0, 11);
            alone(text, 1, 7);
            alone(text, 2, 50 + 17 + 17 + 11);
            alone(text.replace("50", "9"), 2, 9 + 17 + 17 + 11);
        });
        said("The return from an arc to a node is 0 if the arc leads to the node; otherwise it is the least sum of the deadhead"
                + " from the arc to an arc z that leads to the node and the cost of z.", () -> {
            String text = "edge 0 1 7 11 1;edge 1 2 13 17 1;edge 0 2 50 60 1;ban 1 1 0;depot 0;";
            alone(text, 1, 7);
            alone(text, 5, 7 + 13);
            alone(text, 3, 7 + 13 + 13 + 60);
            alone(text.replace("60", "9"), 3, 7 + 13 + 13 + 9);
        });
        said("There is none if there is no such arc z.", () -> {
            alone("edge 0 1 7 11 1;depot 3;", 0, -1);
            alone("edge 0 1 7 11 1;edge 2 3 1 1 1;depot 3;", 1, -1);
            alone("edge 0 1 7 11 1;edge 1 2 13 17 1;ban 1 0 1;depot 0;", 2, -1);
            alone("edge 0 1 7 11 1;edge 1 2 13 17 1;ban 1 1 0;depot 0;", 3, -1);
            alone("edge 0 1 7 11 1;edge 1 2 13 17 1;ban 1 0 1;depot 2;", 0, -1);
            alone("edge 0 1 7 11 1;edge 1 2 13 17 1;ban 1 0 1;depot 2;", 1, -1);
            alone("edge 0 1 7 11 1;depot 0;", 0, 11);
        });
    }

    /** The costs of serving an edge with the costs 1 and 99 and the demand 0. */
    private static void service(String sum, int forth, int back) {
        WindyTours x = Due.with("network 2 9;edge 0 1 1 99 0;service " + sum + ";");
        Due.is(sum + " forth", x.serviceCost(0), forth);
        Due.is(sum + " back", x.serviceCost(1), back);
    }

    private static void same(String sum, int due) {
        service(sum, due, due);
    }

    private static void services() {
        said("The cost of serving by an arc is the value of the service expression, limited to the range 0 to 9999.", () -> {
            same("0-1", 0);
            same("0", 0);
            same("1", 1);
            same("9998+0", 9998);
            same("9998+1", 9999);
            same("9998+2", 9999);
            same("9999*9999*9999", 9999);
            same("0-9999*9999*9999", 0);
            service("cost-1", 0, 98);
            service("cost-2", 0, 97);
            service("cost*101", 101, 9999);
            service("cost*102", 102, 9999);
        });
        said("In the expression, cost is the cost of the arc and demand is the demand of its edge.", () -> {
            WindyTours x = Due.with("network 2 9;service 100*cost+demand;edge 0 1 1 99 0;edge 0 1 1 98 99;");
            Due.is("the least cost and no demand", x.serviceCost(0), 100);
            Due.is("the greatest cost", x.serviceCost(1), 9900);
            Due.is("the greatest demand", x.serviceCost(2), 199);
            Due.is("another cost", x.serviceCost(3), 9899);
        });
        said("Division by 0 gives 0.", () -> {
            same("7/0", 0);
            same("0/0", 0);
            same("7/0+3", 3);
            same("7/0*5+2", 2);
            same("(0-7)/0+4", 4);
            same("7/demand+5", 5);
            same("9-7/(cost-cost)", 9);
            service("7/(cost-1)", 0, 0);
            service("98/(cost-1)+6", 6, 7);
        });
        said("Division truncates toward zero.", () -> {
            same("7/2", 3);
            same("1/2", 0);
            same("(0-7)/2+10", 7);
            same("7/(0-2)+10", 7);
            same("(0-7)/(0-2)", 3);
            same("(0-1)/2+5", 5);
            same("(0-8)/2+10", 6);
        });
        said("Without a service statement it is the cost of the arc.", () -> {
            WindyTours x = Due.with("network 2 9;edge 0 1 1 99 99;");
            Due.is("the least", x.serviceCost(0), 1);
            Due.is("the greatest", x.serviceCost(1), 99);
            Due.is("with a statement before", Due.loaded(x, "network 2 9;service 5;edge 0 1 1 99 99;"), 1);
            Due.is("by the statement", x.serviceCost(1), 5);
            Due.is("without one again", Due.loaded(x, "network 2 9;edge 0 1 1 99 99;"), 1);
            Due.is("the cost again", x.serviceCost(1), 99);
        });
    }

    private static void limits() {
        said("The operations of one sum or term are made from the left to the right; the result of each one is limited to the"
                + " range -1000000 to 1000000.", () -> {
            same("10-3-2", 5);
            same("8-2+3", 9);
            same("100/5/2", 10);
            same("7/2*2", 6);
            same("2*7/4", 3);
            same("2+3*4", 14);
            same("1000*1000-9999*100", 100);
            same("1000*1000+1-9999*100", 100);
            same("1000*1000-1-9999*100", 99);
            same("1001*1000-9999*100", 100);
            same("9999*9999*9999*9999/1000", 1000);
            same("0-1000*1000+9999*100+101", 1);
            same("0-1000*1000-1+9999*100+101", 1);
            same("0-1000*1000+1+9999*100+101", 2);
            same("(0-1001)*1000+9999*100+101", 1);
            same("(0-9999)*9999*9999*9999/1000+1001", 1);
            same("1000*1000*(0-1)/1000+1001", 1);
        });
        said("A number that is limited to a range becomes the nearer bound if it is outside of it.", () -> {
            same("0-9999", 0);
            same("9999+9999", 9999);
            same("(9999*9999-9999*100)/10", 10);
            same("(0-9999*9999+9999*100)/10+10", 0);
            same("(0-9999*9999+9999*100)/10+11", 1);
        });
    }

    private static void oddNodes() {
        said("The odd nodes are those at which an odd number of edges with a demand greater than 0 ends.", () -> {
            Due.is("none, 1, 2 and 3 edges", Due.with("network 4 9;edge 0 1 1 1 1;edge 0 1 1 1 1;edge 0 1 1 1 0;edge 1 2 1 1 1;")
                    .oddNodes(), 6);
            Due.is("demand 0", Due.with("network 2 9;edge 0 1 1 1 0;").oddNodes(), 0);
            Due.is("demand 1", Due.with("network 2 9;edge 0 1 1 1 1;").oddNodes(), 3);
            Due.is("13 edges with a demand", Due.with(full()).oddNodes(), 129);
            Due.is("14 edges with a demand", Due.with(HEAD + "edge 0 1 1 1 1;".repeat(14)).oddNodes(), 0);
        });
        Sentence.holds(14, "Returns the set of the odd nodes: bit k stands for node k.", () -> {
            Due.is("no network", new WindyTours().oddNodes(), 0);
            Due.is("the first and the last bit", Due.with("network 8 9;edge 7 0 1 1 1;").oddNodes(), 129);
            Due.is("all bits", Due.with("network 8 9;edge 7 0 1 1 1;edge 1 6 1 1 1;edge 2 5 1 1 1;edge 3 4 1 1 1;").oddNodes(), 255);
        });
        said("The cost of a pair of nodes is the smaller one of the two distances between them (in both directions); there is none"
                + " if one can come from neither to the other.", () -> {
            String text = "network 3 9;edge 0 1 1 1 1;edge 1 2 3 4 1;";
            Due.is("the first direction is cheaper", Due.with(text).matching(), 4);
            Due.is("the second one is cheaper", Due.with(text.replace("3 4", "4 3")).matching(), 4);
            Due.is("the second one alone", Due.with(text + "ban 1 0 1;").matching(), 5);
            Due.is("the first one alone", Due.with(text + "ban 1 1 0;").matching(), 4);
            Due.is("neither", Due.with(text + "ban 1 0 1;ban 1 1 0;").matching(), -1);
        });
        said("A matching divides the odd nodes into pairs that have a cost; its cost is the sum of the costs of its pairs.", () -> {
            String two = "network 4 9;edge 0 1 5 7 1;edge 2 3 4 2 1;";
            Due.is("pairs within two parts", Due.with(two).matching(), 7);
            Due.is("pairs across", Due.with(two + "edge 0 2 1 1 0;edge 1 3 1 1 0;").matching(), 2);
            Due.is("the last pairs", Due.with(two + "edge 0 3 1 1 0;edge 1 2 1 1 0;").matching(), 2);
        });
        Sentence.holds(15, "Returns the smallest cost of all matchings; 0 if there are no odd nodes; -1 if there is no matching.", () -> {
            Due.is("no network", new WindyTours().matching(), 0);
            Due.is("no edges", Due.with(HEAD).matching(), 0);
            Due.is("demand 0 alone", Due.with(HEAD + "edge 0 1 1 1 0;").matching(), 0);
            Due.is("no odd nodes", Due.with(HEAD + "edge 0 1 1 1 1;edge 0 1 1 1 1;").matching(), 0);
            Due.is("the smallest cost", Due.with(HEAD + "edge 0 1 1 99 1;").matching(), 1);
            Due.is("no matching", Due.with("network 5 9;edge 0 1 1 1 1;edge 0 2 1 1 1;edge 3 4 1 1 1;ban 0 0 1;ban 0 1 0;").matching(), -1);
            Due.is("eight nodes", Due.with("network 8 9;edge 7 0 9 1 1;edge 1 6 9 2 1;edge 2 5 9 4 1;edge 3 4 9 8 1;").matching(), 15);
        });
    }

    private static void counts() {
        Sentence.holds(5, "Returns the number of nodes.", () -> {
            Due.is("no network", new WindyTours().nodeCount(), 0);
            Due.is("the fewest", Due.with(HEAD).nodeCount(), 2);
            Due.is("the most", Due.with(full()).nodeCount(), 8);
        });
        Sentence.holds(6, "Returns the number of edges.", () -> {
            Due.is("no network", new WindyTours().edgeCount(), 0);
            Due.is("none", Due.with(HEAD).edgeCount(), 0);
            Due.is("the most", Due.with(full()).edgeCount(), 14);
        });
        Sentence.holds(7, "Returns the number of depots.", () -> {
            Due.is("no network", new WindyTours().depotCount(), 0);
            Due.is("none", Due.with(HEAD).depotCount(), 0);
            Due.is("the most", Due.with(full()).depotCount(), 3);
        });
        Sentence.holds(8, "Returns the number of tours.", () -> {
            Due.is("no network", new WindyTours().tourCount(), 0);
            WindyTours x = Due.with(full());
            for (int tours = 0; tours <= 4; tours++) {
                Due.is("tours", x.tourCount(), tours);
                if (tours < 4) {
                    x.openTour(tours % 3);
                }
            }
            Due.noState("one more", () -> x.openTour(0));
            Due.is("the most", x.tourCount(), 4);
        });
        said("Edges, depots and tours have indexes from 0 in the order in which they are declared or opened.", () -> {
            WindyTours x = Due.with(full());
            Due.is("the first edge", x.edge(0, 2), 1);
            Due.is("the last edge", x.edge(13, 2), 14);
            Due.is("the first tour", x.openTour(2), 0);
            Due.is("the next tour", x.openTour(0), 1);
            Due.is("the next tour", x.openTour(1), 2);
            Due.is("the last depot", x.depotOf(0), 7);
            Due.is("the first depot", x.depotOf(1), 0);
            Due.is("the depot between them", x.depotOf(2), 3);
        });
    }

    private static void edges() {
        Sentence.holds(9, "`what`: 0 its node a, 1 its node b, 2 its cost from a to b, 3 its cost from b to a, 4 its demand", () -> {
            WindyTours x = Due.with(full());
            int[] first = {0, 7, 1, 99, 0};
            int[] last = {0, 7, 14, 86, 13};
            for (int what = 0; what < 5; what++) {
                Due.is("the first edge, " + what, x.edge(0, what), first[what]);
                Due.is("the last edge, " + what, x.edge(13, what), last[what]);
            }
        });
        Sentence.holds(9, "Throws `IndexOutOfBoundsException` if there is no such edge", () -> {
            for (int edge : Due.outside(14)) {
                Due.noIndex("of 14, " + edge, () -> Due.with(full()).edge(edge, 0));
            }
            Due.noIndex("of 1", () -> Due.with(HEAD + "edge 0 1 1 1 1;").edge(1, 4));
            Due.noIndex("of none", () -> Due.with(HEAD).edge(0, 0));
            Due.noIndex("no network", () -> new WindyTours().edge(0, 0));
        });
        Sentence.holds(9, "Throws `IllegalArgumentException` if what is not 0 to 4", () -> {
            WindyTours x = Due.with(full());
            for (int what : Due.outside(5)) {
                Due.noArgument("the first edge, " + what, () -> x.edge(0, what));
                Due.noArgument("the last edge, " + what, () -> x.edge(13, what));
                Due.noIndex("no such edge, too, " + what, () -> x.edge(14, what));
                Due.noIndex("no such edge, too, " + what, () -> x.edge(-1, what));
            }
        });
    }

    private static void wrongArcs() {
        Sentence.holds(10, "Throws `IndexOutOfBoundsException` if one of the arcs does not exist", () -> {
            WindyTours x = Due.with(full());
            Due.no("the last arcs exist", x.mayFollow(27, 27));
            for (int arc : Due.outside(28)) {
                Due.noIndex("x " + arc, () -> x.mayFollow(arc, 0));
                Due.noIndex("y " + arc, () -> x.mayFollow(27, arc));
                Due.noIndex("both " + arc, () -> x.mayFollow(arc, arc));
            }
            Due.noIndex("of 2", () -> Due.with(HEAD + "edge 0 1 1 1 1;").mayFollow(0, 2));
            Due.noIndex("of none", () -> Due.with(HEAD).mayFollow(0, 0));
            Due.noIndex("no network", () -> new WindyTours().mayFollow(0, 0));
        });
        Sentence.holds(11, "Throws `IndexOutOfBoundsException` if one of the arcs does not exist", () -> {
            WindyTours x = Due.with(full());
            Due.is("the last arcs exist", x.deadhead(27, 27), 1);
            for (int arc : Due.outside(28)) {
                Due.noIndex("x " + arc, () -> x.deadhead(arc, 0));
                Due.noIndex("y " + arc, () -> x.deadhead(27, arc));
                Due.noIndex("both " + arc, () -> x.deadhead(arc, arc));
            }
            Due.noIndex("of 2", () -> Due.with(HEAD + "edge 0 1 1 1 1;").deadhead(2, 0));
            Due.noIndex("of none", () -> Due.with(HEAD).deadhead(0, 0));
            Due.noIndex("no network", () -> new WindyTours().deadhead(0, 0));
        });
        Sentence.holds(13, "Throws `IndexOutOfBoundsException` if there is no such arc", () -> {
            WindyTours x = Due.with(full());
            Due.is("the last arc exists", x.serviceCost(27), 86);
            for (int arc : Due.outside(28)) {
                Due.noIndex("arc " + arc, () -> x.serviceCost(arc));
            }
            Due.noIndex("of 2", () -> Due.with(HEAD + "edge 0 1 1 1 1;").serviceCost(2));
            Due.noIndex("of none", () -> Due.with(HEAD).serviceCost(0));
            Due.noIndex("no network", () -> new WindyTours().serviceCost(0));
        });
    }

    private static void wrongNodes() {
        Sentence.holds(12, "Throws `IndexOutOfBoundsException` if one of the nodes does not exist", () -> {
            WindyTours x = Due.with(full());
            Due.is("the last node exists", x.distance(7, 7), 0);
            for (int node : Due.outside(8)) {
                Due.noIndex("from " + node, () -> x.distance(node, 0));
                Due.noIndex("to " + node, () -> x.distance(7, node));
                Due.noIndex("both " + node, () -> x.distance(node, node));
            }
            Due.noIndex("of 2, from", () -> Due.with(HEAD).distance(2, 0));
            Due.noIndex("of 2, to", () -> Due.with(HEAD).distance(0, 2));
            Due.noIndex("no network", () -> new WindyTours().distance(0, 0));
        });
    }
}
