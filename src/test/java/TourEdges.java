import java.util.function.ObjIntConsumer;

/** Sentences about the tours and the changes of one edge: promises 16 to 23 and 25 to 28. */
final class TourEdges {
    /** An edge between 0 and 1 that costs 1 in both directions and has a demand of 1. */
    private static final String EDGE = "edge 0 1 1 1 1;";
    /** One may drive from 0 over 1 to 2 and back to 0 alone: by the arcs 0, 2 and 4. */
    private static final String ONE_WAY = "network 3 99;edge 0 1 1 1 1;edge 1 2 1 1 1;edge 2 0 1 1 1;ban 1 1 0;ban 2 2 1;ban 0 0 2;"
            + "ban 0 0 0;ban 1 0 0;ban 1 1 1;ban 2 1 1;ban 2 2 2;ban 0 2 2;service 10;depot 0;";

    private TourEdges() {
    }

    static void run() {
        wrongTours();
        lists();
        loads();
        costs();
        whoServes();
        opening();
        inserting();
        wrongInsertions();
        positions();
        dropping();
        flipping();
    }

    private static void said(String words, Runnable test) {
        Sentence.holds(Sentence.DESCRIPTION, words, test);
    }

    /** A tour of all 14 edges, there and back by turns: arcs 0, 3, 4, 7, 8 .. 24, 27; it costs 14. */
    static WindyTours longTour() {
        WindyTours x = Due.with("network 2 14;" + EDGE.repeat(14) + "depot 0;depot 1;");
        x.openTour(0);
        for (int edge = 0; edge < 14; edge++) {
            x.insert(0, edge, 2 * edge + edge % 2);
        }
        return x;
    }

    static String arcsOf(WindyTours x, int tour) {
        StringBuilder arcs = new StringBuilder();
        for (int position = 0; position < x.length(tour); position++) {
            arcs.append(position == 0 ? "" : " ").append(x.arcAt(tour, position));
        }
        return arcs.toString();
    }

    static void arcs(String what, WindyTours x, int tour, String due) {
        String got = arcsOf(x, tour);
        if (!got.equals(due)) {
            Due.fail(what + ": the arcs are " + got + ", due is " + due);
        }
    }

    private static void wrongTours(int promise, String words, ObjIntConsumer<WindyTours> call) {
        Sentence.holds(promise, words, () -> {
            Due.noIndex("no network", () -> call.accept(new WindyTours(), 0));
            WindyTours x = Due.with("network 2 9;" + EDGE + "depot 0;");
            Due.noIndex("no tours", () -> call.accept(x, 0));
            for (int tours = 1; tours <= 4; tours++) {
                int beyond = tours;
                x.openTour(0);
                Due.noIndex("beyond the last tour", () -> call.accept(x, beyond));
            }
            for (int tour : Due.outside(4)) {
                Due.noIndex("tour " + tour, () -> call.accept(x, tour));
            }
            x.undo();
            Due.noIndex("a tour that is undone", () -> call.accept(x, 3));
            Due.loaded(x, "network 2 9;" + EDGE + "depot 0;");
            Due.noIndex("no tours behind a load", () -> call.accept(x, 0));
        });
    }

    private static void wrongTours() {
        String words = "Throws `IndexOutOfBoundsException` if there is no such tour";
        wrongTours(16, words, (x, tour) -> x.depotOf(tour));
        wrongTours(17, words, (x, tour) -> x.length(tour));
        wrongTours(18, words, (x, tour) -> x.arcAt(tour, 0));
        wrongTours(19, words, (x, tour) -> x.loadOf(tour));
        wrongTours(20, words, (x, tour) -> x.tourCost(tour));
        wrongTours(26, words, (x, tour) -> x.insert(tour, 0, 0));
    }

    private static void lists() {
        Sentence.holds(17, "Returns the number of its arcs.", () -> {
            WindyTours x = longTour();
            Due.is("the most", x.length(0), 14);
            for (int edge = 13; edge >= 0; edge--) {
                x.drop(edge);
                Due.is("fewer", x.length(0), edge);
            }
            x.openTour(1);
            Due.is("a new tour", x.length(1), 0);
        });
        Sentence.holds(18, "`position`: a position in its list, from 0", () -> {
            WindyTours x = longTour();
            Due.is("the first one", x.arcAt(0, 0), 0);
            Due.is("the last one", x.arcAt(0, 13), 27);
            arcs("all of them", x, 0, "0 3 4 7 8 11 12 15 16 19 20 23 24 27");
        });
        Sentence.holds(18, "Throws `NoSuchElementException` if there is no such position", () -> {
            WindyTours x = longTour();
            for (int position : Due.outside(14)) {
                Due.noElement("of 14, " + position, () -> x.arcAt(0, position));
            }
            x.drop(13);
            Due.noElement("what is dropped", () -> x.arcAt(0, 13));
            Due.is("the last one then", x.arcAt(0, 12), 24);
            x.openTour(1);
            for (int position : Due.outside(0)) {
                Due.noElement("of none, " + position, () -> x.arcAt(1, position));
            }
        });
        said("A tour belongs to a depot and has a list of arcs that it serves, in their order.", () -> {
            WindyTours x = Due.with("network 8 9;edge 0 7 1 1 1;edge 0 7 1 1 1;depot 7;depot 0;depot 7;");
            x.openTour(2);
            x.openTour(1);
            Due.is("the last node", x.depotOf(0), 7);
            Due.is("the first node", x.depotOf(1), 0);
            x.insert(1, 0, 2);
            x.insert(1, 0, 1);
            arcs("in their order", x, 1, "1 2");
            arcs("none", x, 0, "");
        });
    }

    private static void loads() {
        said("The load of a tour is the sum of the demands of the edges that it serves; it is at most the capacity (1 to 999).", () -> {
            WindyTours x = Due.with("network 2 1;" + EDGE + EDGE + "edge 0 1 1 1 2;depot 0;");
            x.openTour(0);
            Due.noState("more than the least capacity", () -> x.insert(0, 0, 4));
            x.insert(0, 0, 0);
            Due.is("the least capacity", x.loadOf(0), 1);
            Due.noState("one more", () -> x.insert(0, 0, 2));
            WindyTours y = Due.with("network 2 999;" + "edge 0 1 1 1 99;".repeat(10) + "edge 0 1 1 1 9;edge 0 1 1 1 10;" + EDGE + "depot 0;");
            y.openTour(0);
            for (int edge = 0; edge < 10; edge++) {
                y.insert(0, 0, 2 * edge);
            }
            Due.is("ten times the greatest demand", y.loadOf(0), 990);
            Due.noState("1000", () -> y.insert(0, 0, 22));
            y.insert(0, 0, 20);
            Due.is("the greatest capacity", y.loadOf(0), 999);
            Due.noState("one more", () -> y.insert(0, 0, 24));
            Due.is("none fits", y.bestInsertion(12), -1);
            y.drop(10);
            y.insert(0, 0, 24);
            Due.is("room again", y.loadOf(0), 991);
        });
        Sentence.holds(19, "Returns its load.", () -> {
            WindyTours x = Due.with("network 2 99;edge 0 1 1 1 99;edge 0 1 1 1 0;depot 0;");
            x.openTour(0);
            Due.is("of none", x.loadOf(0), 0);
            x.insert(0, 0, 1);
            Due.is("of one", x.loadOf(0), 99);
            x.flip(0);
            Due.is("by its other arc", x.loadOf(0), 99);
            x.drop(0);
            Due.is("of none again", x.loadOf(0), 0);
        });
    }

    private static void costs() {
        said("The cost of a tour without arcs is 0.", () -> {
            WindyTours x = Due.with("network 3 9;" + EDGE + "depot 0;depot 2;");
            x.openTour(0);
            Due.is("a new tour", x.tourCost(0), 0);
            x.openTour(1);
            Due.is("from a node without edges", x.tourCost(1), 0);
            x.insert(0, 0, 0);
            Due.is("with an arc", x.tourCost(0), 2);
            Due.is("dropped", x.drop(0), 0);
            Due.is("empty again", x.tourCost(0), 0);
        });
        said("Otherwise it is the approach from the node of its depot to its first arc, plus the costs of serving by all its arcs, plus"
                + " the deadheads from each of its arcs to the next one, plus the return from its last arc to the node of the depot.", () -> {
            WindyTours x = Due.with("network 3 9;edge 0 1 2 3 1;edge 1 2 5 7 1;edge 1 2 11 13 1;service cost*100;depot 0;");
            x.openTour(0);
            Due.is("no deadhead for one arc", x.insert(0, 0, 2), 2 + 500 + (7 + 3));
            Due.is("a deadhead between two", x.insert(0, 1, 4), 2 + 500 + 7 + 1100 + (7 + 3));
            Due.is("a deadhead of 0", x.flip(2), 2 + 500 + 0 + 1300 + 3);
            Due.is("an approach of 0", x.insert(0, 0, 0), 200 + 0 + 500 + 0 + 1300 + 3);
            x.drop(0);
            Due.is("a return of 0", x.insert(0, 2, 1), 2 + 500 + 0 + 1300 + 0 + 300);
        });
        Sentence.holds(20, "Returns its cost.", () -> {
            WindyTours x = longTour();
            Due.is("of 14 arcs", x.tourCost(0), 14);
            x.openTour(1);
            Due.is("of none", x.tourCost(1), 0);
            x.drop(13);
            x.insert(1, 0, 26);
            Due.is("approach, service and no return", x.tourCost(1), 2);
            WindyTours y = Due.with("network 2 999;" + EDGE.repeat(14) + "service 9999;depot 1;");
            y.openTour(0);
            for (int edge = 0; edge < 14; edge++) {
                y.insert(0, 0, 2 * edge);
            }
            Due.is("the greatest services and 14 drives", y.tourCost(0), 14 * 9999 + 14);
        });
        said("The total cost is the sum of the costs of all tours.", () -> {
            Due.is("no network", new WindyTours().totalCost(), 0);
            WindyTours x = Due.with("network 2 9;" + EDGE + "edge 0 1 9 9 1;edge 0 1 20 20 1;edge 0 1 50 50 1;depot 0;");
            Due.is("no tours", x.totalCost(), 0);
            for (int tour = 0; tour < 4; tour++) {
                x.openTour(0);
            }
            Due.is("tours without arcs", x.totalCost(), 0);
            x.insert(3, 0, 6);
            Due.is("the last tour alone", x.totalCost(), 51);
            x.insert(0, 0, 0);
            Due.is("and the first one", x.totalCost(), 53);
            x.insert(1, 0, 2);
            x.insert(2, 0, 4);
            Due.is("all four", x.totalCost(), 53 + 10 + 21);
        });
        Sentence.holds(21, "Returns the total cost.", () -> {
            WindyTours x = longTour();
            Due.is("one tour of 14", x.totalCost(), 14);
            for (int edge = 0; edge < 14; edge++) {
                x.drop(edge);
            }
            Due.is("nothing is served", x.totalCost(), 0);
        });
    }

    private static void whoServes() {
        said("An edge with a demand greater than 0 can be served by one tour, by one of its arcs.", () -> {
            WindyTours x = Due.with("network 2 9;" + EDGE + "edge 0 1 1 1 0;depot 0;");
            x.openTour(0);
            x.openTour(0);
            Due.noState("demand 0", () -> x.insert(0, 0, 2));
            Due.noState("demand 0, back", () -> x.insert(0, 0, 3));
            Due.is("demand 1", x.insert(1, 0, 0), 2);
            Due.noState("served by this tour", () -> x.insert(1, 0, 0));
            Due.noState("served by this tour, back", () -> x.insert(1, 1, 1));
            Due.noState("served by another tour", () -> x.insert(0, 0, 0));
            Due.noState("served by another tour, back", () -> x.insert(0, 0, 1));
            x.drop(0);
            Due.is("not served any more", x.insert(0, 0, 1), 2);
        });
        Sentence.holds(22, "Returns the number of edges with a demand greater than 0 that are not served.", () -> {
            Due.is("no network", new WindyTours().unserved(), 0);
            Due.is("no edges", Due.with("network 2 9;").unserved(), 0);
            Due.is("demand 0", Due.with("network 2 9;edge 0 1 1 1 0;").unserved(), 0);
            Due.is("demand 1", Due.with("network 2 9;edge 0 1 1 1 1;").unserved(), 1);
            WindyTours x = longTour();
            Due.is("all are served", x.unserved(), 0);
            for (int edge = 0; edge < 14; edge++) {
                x.drop(edge);
                Due.is("dropped", x.unserved(), edge + 1);
            }
        });
        Sentence.holds(23, "Returns the tour that serves it; -1 if none does.", () -> {
            WindyTours x = Due.with("network 2 9;" + EDGE.repeat(13) + "edge 0 1 1 1 0;depot 0;");
            Due.is("no tours", x.tourOf(0), -1);
            for (int tour = 0; tour < 4; tour++) {
                x.openTour(0);
                x.insert(tour, 0, 2 * tour + tour % 2);
            }
            for (int tour = 0; tour < 4; tour++) {
                Due.is("served", x.tourOf(tour), tour);
            }
            Due.is("the first one that is not served", x.tourOf(4), -1);
            Due.is("demand 0", x.tourOf(13), -1);
            x.drop(3);
            Due.is("dropped", x.tourOf(3), -1);
        });
        Sentence.holds(23, "Throws `IndexOutOfBoundsException` if there is no such edge", () -> {
            for (int edge : Due.outside(14)) {
                Due.noIndex("of 14, " + edge, () -> Due.with(NetworkEdges.full()).tourOf(edge));
            }
            Due.noIndex("of 1", () -> Due.with("network 2 9;" + EDGE).tourOf(1));
            Due.noIndex("no network", () -> new WindyTours().tourOf(0));
        });
    }

    private static void opening() {
        said("and at most 4 tours", () -> {
            WindyTours x = Due.with("network 2 9;" + EDGE + "depot 0;");
            for (int tour = 0; tour < 4; tour++) {
                Due.is("tour", x.openTour(0), tour);
            }
            Due.noState("the fifth", () -> x.openTour(0));
            Due.noState("the fifth again", () -> x.openTour(0));
            Due.is("undone", x.undo(), 4);
            Due.is("the fourth again", x.openTour(0), 3);
            Due.noState("the fifth", () -> x.openTour(0));
        });
        Sentence.holds(25, "Opens a tour without arcs.", () -> {
            WindyTours x = longTour();
            Due.is("the next one", x.openTour(0), 1);
            Due.is("arcs", x.length(1), 0);
            Due.is("load", x.loadOf(1), 0);
            for (int edge = 0; edge < 3; edge++) {
                x.drop(edge);
                x.insert(1, 0, 2 * edge);
            }
            for (int change = 0; change < 7; change++) {
                x.undo();
            }
            Due.is("none is left of the tour that is undone", x.tourCount(), 1);
            Due.is("a tour in its place", x.openTour(1), 1);
            Due.is("arcs", x.length(1), 0);
            Due.is("its depot", x.depotOf(1), 1);
        });
        Sentence.holds(25, "Throws `IndexOutOfBoundsException` if there is no such depot", () -> {
            Due.noIndex("no network", () -> new WindyTours().openTour(0));
            Due.noIndex("no depots", () -> Due.with("network 2 9;").openTour(0));
            Due.noIndex("of 1", () -> Due.with("network 2 9;depot 0;").openTour(1));
            Due.noIndex("of 2", () -> Due.with("network 2 9;depot 0;depot 1;").openTour(2));
            for (int depot : Due.outside(3)) {
                Due.noIndex("of 3, " + depot, () -> Due.with(NetworkEdges.full()).openTour(depot));
            }
            Due.is("the last one", Due.with(NetworkEdges.full()).openTour(2), 0);
        });
        Sentence.holds(25, "Throws `IllegalStateException` if there are 4 tours", () -> {
            WindyTours x = Due.with(NetworkEdges.full());
            for (int tour = 0; tour < 4; tour++) {
                x.openTour(tour % 3);
            }
            for (int depot = 0; depot < 3; depot++) {
                int each = depot;
                Due.noState("depot " + each, () -> x.openTour(each));
            }
            Due.noIndex("no such depot, too", () -> x.openTour(3));
            Due.is("tours", x.tourCount(), 4);
        });
    }

    private static void inserting() {
        said("An insertion puts an arc of an edge that is not served at a position of a tour: 0 to the number of its arcs; the arcs"
                + " from this position on move up by one.", () -> {
            WindyTours x = longTour();
            x.drop(5);
            x.insert(0, 0, 10);
            arcs("to the front", x, 0, "10 0 3 4 7 8 12 15 16 19 20 23 24 27");
            x.drop(5);
            x.insert(0, 13, 11);
            arcs("to the end", x, 0, "0 3 4 7 8 12 15 16 19 20 23 24 27 11");
            x.drop(5);
            x.insert(0, 12, 10);
            arcs("before the last one", x, 0, "0 3 4 7 8 12 15 16 19 20 23 24 10 27");
            x.openTour(0);
            x.drop(0);
            x.insert(1, 0, 0);
            arcs("as the only one", x, 1, "0");
            arcs("the other tour moves down", x, 0, "3 4 7 8 12 15 16 19 20 23 24 10 27");
        });
        said("It is possible if the load does not exceed the capacity then and the tour is drivable.", () -> {
            WindyTours x = Due.with("network 4 10;edge 0 1 1 1 10;edge 0 1 1 1 11;edge 2 3 1 1 1;edge 0 1 1 1 1;depot 0;");
            x.openTour(0);
            Due.noState("a demand above the capacity", () -> x.insert(0, 0, 2));
            Due.noState("no way", () -> x.insert(0, 0, 4));
            Due.is("a demand of the capacity", x.insert(0, 0, 0), 2);
            Due.noState("no room", () -> x.insert(0, 1, 7));
            x.drop(0);
            Due.is("room", x.insert(0, 0, 7), 2);
        });
        said("A change by which a tour would not be drivable cannot be made.", () -> {
            WindyTours x = Due.with(ONE_WAY);
            x.openTour(0);
            for (int arc = 0; arc < 6; arc++) {
                int each = arc;
                if (each % 2 == 1) {
                    Due.noState("against the one way, " + each, () -> x.insert(0, 0, each));
                }
            }
            Due.is("along it", x.insert(0, 0, 2), 12);
            Due.noState("no deadhead to it", () -> x.insert(0, 1, 1));
            Due.noState("no deadhead from it", () -> x.insert(0, 0, 1));
            Due.noState("flip", () -> x.flip(1));
            Due.is("build finds the way", x.build(), 2);
            arcs("along the way", x, 0, "0 2 4");
            for (int edge = 0; edge < 3; edge++) {
                int each = edge;
                Due.noState("flip of the first, of one between, of the last", () -> x.flip(each));
            }
            Due.is("nothing to gain", x.improve(10), 0);
        });
        said("A tour is drivable if all of these exist.", () -> {
            String text = "network 3 9;edge 0 1 1 1 1;edge 0 2 1 1 1;ban 0 0 1;ban 0 0 0;depot 0;depot 1;depot 2;";
            WindyTours x = Due.with(text);
            x.openTour(0);
            x.openTour(1);
            x.openTour(2);
            Due.is("approach and return", x.insert(0, 0, 0), 2);
            Due.noState("no deadhead behind it", () -> x.insert(0, 1, 2));
            Due.noState("no deadhead behind it, back", () -> x.insert(0, 1, 3));
            Due.is("a deadhead before it", x.insert(0, 0, 2), 4);
            x.drop(1);
            Due.noState("no approach", () -> x.insert(1, 0, 2));
            Due.is("an approach, and no return is needed", x.insert(2, 0, 2), 2);
        });
    }

    private static void wrongInsertions() {
        Sentence.holds(26, "`position`: 0 to the number of its arcs", () -> {
            WindyTours x = Due.with("network 2 99;" + EDGE.repeat(3) + "depot 0;");
            x.openTour(0);
            Due.noIndex("1 of 0", () -> x.insert(0, 1, 0));
            Due.is("0 of 0", x.insert(0, 0, 0), 2);
            Due.noIndex("2 of 1", () -> x.insert(0, 2, 3));
            Due.is("1 of 1", x.insert(0, 1, 3), 2);
            Due.is("0 of 2", x.insert(0, 0, 4), 4);
        });
        Sentence.holds(26, "Throws `IndexOutOfBoundsException` if there is no such tour, position or arc", () -> {
            WindyTours x = longTour();
            x.drop(13);
            for (int wrong : Due.outside(1)) {
                Due.noIndex("tour " + wrong, () -> x.insert(wrong, 0, 26));
            }
            for (int wrong : Due.outside(14)) {
                Due.noIndex("position " + wrong, () -> x.insert(0, wrong, 26));
            }
            for (int wrong : Due.outside(28)) {
                Due.noIndex("arc " + wrong, () -> x.insert(0, 0, wrong));
            }
            Due.is("the last position and the last arc", x.insert(0, 13, 27), 14);
            Due.noIndex("position 15 of a full tour", () -> x.insert(0, 15, 0));
            Due.noState("position 14 of a full tour", () -> x.insert(0, 14, 0));
            Due.noIndex("no network", () -> new WindyTours().insert(0, 0, 0));
        });
        Sentence.holds(26, "Throws `IllegalStateException` if the edge of the arc is served or its demand is 0, or if the insertion is not"
                + " possible", () -> {
            WindyTours x = Due.with("network 4 9;edge 0 1 1 1 9;edge 0 1 1 1 0;edge 0 1 1 1 1;edge 2 3 1 1 1;edge 0 1 1 1 10;depot 0;depot 2;");
            x.openTour(0);
            x.openTour(1);
            for (int back = 0; back < 2; back++) {
                int side = back;
                Due.noState("demand 0", () -> x.insert(0, 0, 2 + side));
                Due.noState("never any room", () -> x.insert(0, 0, 8 + side));
                Due.noState("no way", () -> x.insert(1, 0, 4 + side));
                Due.noState("no way", () -> x.insert(0, 0, 6 + side));
            }
            x.insert(0, 0, 0);
            for (int back = 0; back < 2; back++) {
                int side = back;
                Due.noState("served", () -> x.insert(0, 0, side));
                Due.noState("served, another tour", () -> x.insert(1, 0, side));
                Due.noState("no room", () -> x.insert(0, 1, 4 + side));
            }
            arcs("nothing was inserted", x, 0, "0");
            arcs("nor here", x, 1, "");
        });
    }

    private static void positions() {
        Sentence.holds(26, "Returns the cost of the tour then.", () -> {
            WindyTours x = Due.with("network 2 9;" + EDGE + EDGE + "service 0;depot 0;");
            x.openTour(0);
            x.openTour(0);
            Due.is("a service for nothing, and the return", x.insert(1, 0, 0), 1);
            Due.is("less than before", x.insert(1, 1, 3), 0);
            Due.is("the other tour is not counted", x.tourCost(0), 0);
        });
    }

    private static void dropping() {
        Sentence.holds(27, "Returns the cost of the tour then.", () -> {
            Due.is("the first one of 14", longTour().drop(0), 14);
            Due.is("the last one of 14", longTour().drop(13), 14);
            Due.is("one between", longTour().drop(6), 14);
            WindyTours x = longTour();
            x.drop(6);
            Due.is("its neighbour", x.drop(7), 12);
            arcs("the others", x, 0, "0 3 4 7 8 11 16 19 20 23 24 27");
            WindyTours y = Due.with("network 2 9;" + EDGE + "depot 0;");
            y.openTour(0);
            y.insert(0, 0, 1);
            Due.is("the only one", y.drop(0), 0);
        });
        Sentence.holds(27, "Throws `IndexOutOfBoundsException` if there is no such edge", () -> {
            for (int edge : Due.outside(14)) {
                Due.noIndex("of 14, " + edge, () -> longTour().drop(edge));
            }
            Due.noIndex("of 1", () -> Due.with("network 2 9;" + EDGE).drop(1));
            Due.noIndex("no network", () -> new WindyTours().drop(0));
        });
        // A way through the dropped arc stays a way, so that no tour becomes one that is not drivable.
        Sentence.holds(27, "Throws `IllegalStateException` if it is not served, or if the tour would not be drivable", () -> {
            WindyTours x = longTour();
            x.drop(13);
            Due.noState("dropped before", () -> x.drop(13));
            x.undo();
            Due.is("served again", x.drop(13), 14);
            WindyTours y = Due.with("network 2 9;" + EDGE + "edge 0 1 1 1 0;depot 0;");
            Due.noState("no tours", () -> y.drop(0));
            y.openTour(0);
            Due.noState("a tour without arcs", () -> y.drop(0));
            Due.noState("demand 0", () -> y.drop(1));
            WindyTours z = Due.with(ONE_WAY);
            z.openTour(0);
            z.build();
            Due.is("one way without its middle", z.drop(1), 21);
            Due.is("one way without its start", z.drop(0), 12);
            Due.is("one way without its end", z.drop(2), 0);
        });
    }

    private static void flipping() {
        Sentence.holds(28, "Serves an edge by its other arc, at the same position.", () -> {
            for (int edge = 0; edge < 14; edge++) {
                WindyTours x = longTour();
                int arc = x.arcAt(0, edge);
                x.flip(edge);
                Due.is("the other arc", x.arcAt(0, edge), arc % 2 == 0 ? arc + 1 : arc - 1);
                Due.is("arcs", x.length(0), 14);
                x.flip(edge);
                arcs("and back", x, 0, "0 3 4 7 8 11 12 15 16 19 20 23 24 27");
            }
        });
        Sentence.holds(28, "Returns the cost of the tour then.", () -> {
            Due.is("the first one of 14", longTour().flip(0), 16);
            Due.is("the last one of 14", longTour().flip(13), 16);
            Due.is("one between", longTour().flip(6), 16);
            WindyTours x = Due.with("network 2 9;edge 0 1 2 3 1;service cost*10;depot 0;depot 1;");
            x.openTour(0);
            x.openTour(1);
            x.insert(0, 0, 0);
            Due.is("the only one", x.flip(0), 2 + 30);
            Due.is("and back", x.flip(0), 20 + 3);
        });
        Sentence.holds(28, "Throws `IndexOutOfBoundsException` if there is no such edge", () -> {
            for (int edge : Due.outside(14)) {
                Due.noIndex("of 14, " + edge, () -> longTour().flip(edge));
            }
            Due.noIndex("of 1", () -> Due.with("network 2 9;" + EDGE).flip(1));
            Due.noIndex("no network", () -> new WindyTours().flip(0));
        });
        Sentence.holds(28, "Throws `IllegalStateException` if it is not served, or if the tour would not be drivable", () -> {
            WindyTours x = Due.with(ONE_WAY);
            Due.noState("no tours", () -> x.flip(0));
            x.openTour(0);
            Due.noState("a tour without arcs", () -> x.flip(0));
            x.insert(0, 0, 0);
            Due.noState("another edge", () -> x.flip(1));
            Due.noState("no return", () -> x.flip(0));
            x.drop(0);
            x.insert(0, 0, 4);
            Due.noState("no approach", () -> x.flip(2));
            x.insert(0, 0, 0);
            x.insert(0, 1, 2);
            Due.noState("no deadheads", () -> x.flip(1));
            Due.is("nothing is turned", x.arcAt(0, 1), 2);
            x.drop(1);
            Due.noState("not served any more", () -> x.flip(1));
            Due.noState("demand 0", () -> Due.with("network 2 9;edge 0 1 1 1 0;depot 0;").flip(0));
        });
    }
}
