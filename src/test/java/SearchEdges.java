/** Sentences about best insertions and best changes: promises 24, 29 and 30. */
final class SearchEdges {
    private static final String EDGE = "edge 0 1 1 1 1;";

    private SearchEdges() {
    }

    static void run() {
        increases();
        bestInsertions();
        building();
        changes();
        improving();
    }

    private static void said(String words, Runnable test) {
        Sentence.holds(Sentence.DESCRIPTION, words, test);
    }

    private static void increases() {
        said("Its increase is the cost of the tour then minus the cost before.", () -> {
            WindyTours x = Due.with("network 3 99;edge 0 1 9 9 1;edge 0 2 1 1 1;edge 0 2 1 1 1;depot 0;depot 1;");
            x.openTour(0);
            x.openTour(1);
            x.insert(0, 0, 0);
            Due.is("2 more in a dear tour, 20 in a tour without arcs", x.bestInsertion(1), 0);
            WindyTours y = Due.with("network 2 99;edge 0 1 5 50 4;edge 0 1 60 60 4;service cost/55*9;depot 0;");
            y.openTour(0);
            y.openTour(0);
            Due.is("an approach for nothing, and the return", y.insert(1, 0, 0), 50);
            Due.is("less than nothing", y.bestInsertion(1), 1011);
            Due.is("41 less", y.insert(1, 1, 3), 9);
        });
        said("The best insertion of an edge is the possible one with the smallest increase; of several, the one with the smallest tour,"
                + " then with the smallest position, then with the smaller arc.", () -> {
            WindyTours x = Due.with("network 3 9;edge 0 1 3 3 1;edge 0 1 3 3 1;edge 0 1 3 3 1;edge 1 2 2 2 0;depot 2;depot 0;");
            x.openTour(0);
            x.openTour(1);
            x.openTour(1);
            Due.is("the smallest increase, not the smallest tour", x.bestInsertion(0), 1000);
            Due.is("of both tours and both arcs", x.bestInsertion(2), 1000);
            x.insert(2, 0, 0);
            Due.is("the smallest increase is in the last tour", x.bestInsertion(1), 2011);
            x.insert(2, 1, 3);
            Due.is("the smallest tour of two", x.bestInsertion(2), 1000);
            WindyTours y = Due.with("network 2 9;" + EDGE.repeat(3) + "depot 0;");
            y.openTour(0);
            Due.is("the smaller arc", y.bestInsertion(0), 0);
            y.insert(0, 0, 0);
            y.insert(0, 1, 3);
            Due.is("the smallest position", y.bestInsertion(2), 0);
            WindyTours z = Due.with("network 3 20;edge 0 1 5 5 4;edge 0 2 9 1 4;edge 0 2 1 9 0;depot 0;");
            z.openTour(0);
            z.insert(0, 0, 0);
            Due.is("the smallest position before the smaller arc", z.bestInsertion(1), 1);
        });
    }

    private static void bestInsertions() {
        Sentence.holds(24, "Finds the best insertion of an edge.", () -> {
            WindyTours x = Due.with("network 2 9;" + EDGE + EDGE + "depot 0;");
            x.openTour(0);
            x.insert(0, 0, 0);
            long sum = x.checksum();
            Due.is("found", x.bestInsertion(1), 11);
            Due.is("found again", x.bestInsertion(1), 11);
            Due.is("not made", x.checksum(), sum);
            Due.is("no change", x.undo(), 2);
        });
        Sentence.holds(24, "Returns 1000 * (the tour) + 10 * (the position) + (0 for its arc from a to b, 1 for the other one);"
                + " -1 if no insertion is possible.", () -> {
            WindyTours x = Due.with("network 3 14;" + EDGE.repeat(14) + "depot 2;depot 0;");
            Due.is("no tours", x.bestInsertion(0), -1);
            for (int tour = 0; tour < 3; tour++) {
                x.openTour(0);
                Due.is("no way from these tours", x.bestInsertion(13), -1);
            }
            x.openTour(1);
            Due.is("the last tour", x.bestInsertion(13), 3000);
            for (int edge = 0; edge < 13; edge++) {
                x.insert(3, edge, 2 * edge + edge % 2);
            }
            Due.is("the last tour, the last position, the other arc", x.bestInsertion(13), 3131);
            WindyTours y = Due.with("network 2 9;edge 0 1 1 1 9;" + EDGE + "edge 0 1 1 1 10;depot 0;");
            y.openTour(0);
            Due.is("the first tour, the first position, the first arc", y.bestInsertion(0), 0);
            Due.is("more than the capacity", y.bestInsertion(2), -1);
            y.insert(0, 0, 0);
            Due.is("no room", y.bestInsertion(1), -1);
            y.openTour(0);
            Due.is("room in another tour", y.bestInsertion(1), 1000);
        });
        Sentence.holds(24, "Throws `IndexOutOfBoundsException` if there is no such edge", () -> {
            WindyTours x = Due.with(NetworkEdges.full());
            for (int edge : Due.outside(14)) {
                Due.noIndex("of 14, " + edge, () -> x.bestInsertion(edge));
            }
            Due.is("the last one, without tours", x.bestInsertion(13), -1);
            Due.noIndex("of 1", () -> Due.with("network 2 9;" + EDGE).bestInsertion(1));
            Due.noIndex("no network", () -> new WindyTours().bestInsertion(0));
        });
        Sentence.holds(24, "Throws `IllegalStateException` if it is served, or if its demand is 0", () -> {
            WindyTours x = Due.with("network 2 9;" + EDGE + "edge 0 1 1 1 0;depot 0;");
            Due.noState("demand 0, no tours", () -> x.bestInsertion(1));
            x.openTour(0);
            Due.noState("demand 0", () -> x.bestInsertion(1));
            x.insert(0, 0, 0);
            Due.noState("served", () -> x.bestInsertion(0));
            x.flip(0);
            Due.noState("served by its other arc", () -> x.bestInsertion(0));
            x.drop(0);
            Due.is("dropped", x.bestInsertion(0), 0);
        });
    }

    private static void building() {
        Sentence.holds(29, "Makes the best insertions of all edges that are not served and have a demand greater than 0, in the order of"
                + " their indexes; edges without a possible insertion are left out.", () -> {
            WindyTours x = Due.with("network 4 9;edge 0 1 1 1 8;edge 0 1 1 1 0;edge 0 1 1 1 2;edge 2 3 1 1 1;edge 0 1 1 1 1;edge 0 1 1 1 10;"
                    + "depot 0;");
            x.openTour(0);
            Due.is("the first one and the one that still fits", x.build(), 2);
            TourEdges.arcs("both", x, 0, "0 9");
            Due.is("the load is the capacity", x.loadOf(0), 9);
            Due.is("no room, no way, never any room", x.unserved(), 3);
            x.openTour(0);
            Due.is("room in another tour", x.build(), 1);
            TourEdges.arcs("what is served stays", x, 0, "0 9");
            TourEdges.arcs("the other tour", x, 1, "4");
        });
        Sentence.holds(29, "Returns the number of insertions.", () -> {
            Due.is("no network", new WindyTours().build(), 0);
            Due.is("no edges", Due.with("network 2 9;depot 0;").build(), 0);
            Due.is("no tours", Due.with("network 2 9;" + EDGE + "depot 0;").build(), 0);
            WindyTours x = Due.with("network 2 14;" + EDGE.repeat(14) + "depot 0;");
            x.openTour(0);
            Due.is("as many as there can be edges", x.build(), 14);
            Due.is("none is left", x.build(), 0);
            x.drop(13);
            Due.is("the last one", x.build(), 1);
            WindyTours y = Due.with("network 2 1;" + EDGE.repeat(14) + "depot 0;");
            for (int tour = 0; tour < 4; tour++) {
                y.openTour(0);
            }
            Due.is("one for each tour", y.build(), 4);
            for (int tour = 0; tour < 4; tour++) {
                Due.is("in the order of their indexes", y.arcAt(tour, 0), 2 * tour);
            }
        });
    }

    private static void changes() {
        said("The best change of an edge that is served is found in this way: it is dropped from its tour, and its best insertion is"
                + " made.", () -> {
            WindyTours x = Due.with("network 2 4;edge 0 1 5 9 4;edge 0 1 1 1 0;depot 0;");
            x.openTour(0);
            x.insert(0, 0, 1);
            Due.is("its own place is free for it, up to the capacity", x.improve(1), 4);
            TourEdges.arcs("by its other arc", x, 0, "0");
            WindyTours y = Due.with("network 2 9;edge 0 1 5 9 4;edge 0 1 5 9 4;depot 0;");
            y.openTour(0);
            Due.is("what is not served is not inserted", y.improve(10), 0);
            Due.is("arcs", y.length(0), 0);
            WindyTours z = Due.with("network 2 9;edge 1 0 5 5 1;edge 1 0 5 5 1;depot 0;");
            z.openTour(0);
            z.openTour(0);
            z.insert(0, 0, 0);
            z.insert(1, 0, 3);
            Due.is("the way home of another tour", z.improve(1), 10);
            TourEdges.arcs("by its first arc, at position 1", z, 1, "3 0");
            WindyTours last = Due.with("network 3 14;" + EDGE.repeat(14) + "depot 2;depot 0;");
            for (int tour = 0; tour < 4; tour++) {
                last.openTour(tour / 3);
            }
            for (int edge = 1; edge < 14; edge++) {
                last.insert(3, edge - 1, 2 * edge + (edge - 1) % 2);
            }
            Due.is("2 more in front than at the end", last.insert(3, 0, 1), 16);
            Due.is("from the first to the last position of the last tour", last.improve(1), 2);
            TourEdges.arcs("at position 13", last, 3, "2 5 6 9 10 13 14 17 18 21 22 25 26 1");
        });
        said("(There can be none, if the tour without the edge is not drivable.) The gain is the total cost before minus the total cost"
                + " after it.", () -> {
            WindyTours x = Due.with("network 3 9;edge 0 1 20 20 1;edge 1 2 1 1 1;depot 0;depot 2;");
            x.openTour(0);
            x.openTour(1);
            x.insert(0, 0, 2);
            Due.is("from one tour to another", x.improve(1), 40);
            Due.is("the tour that is left", x.tourCost(0), 0);
            Due.is("the other one", x.tourCost(1), 2);
        });
        Sentence.holds(30, "as long as its gain is greater than 0", () -> {
            WindyTours x = Due.with("network 2 9;edge 0 1 5 6 1;edge 0 1 1 1 0;depot 0;");
            x.openTour(0);
            x.insert(0, 0, 1);
            Due.is("a gain of 1", x.improve(1), 1);
            TourEdges.arcs("is made", x, 0, "0");
            WindyTours y = Due.with("network 2 9;edge 0 1 5 5 1;edge 0 1 1 1 0;depot 0;");
            y.openTour(0);
            y.openTour(0);
            y.insert(1, 0, 1);
            Due.is("a gain of 0", y.improve(1), 0);
            TourEdges.arcs("is not made", y, 1, "1");
        });
    }

    /** Edge k is served back for the cost at k, and could be served there for 5; one more edge is driven for 1. */
    private static WindyTours backwards(int... costs) {
        StringBuilder text = new StringBuilder("network 2 4;");
        for (int cost : costs) {
            text.append("edge 0 1 5 ").append(cost).append(" 4;");
        }
        WindyTours x = Due.with(text + "edge 0 1 1 1 0;depot 0;");
        for (int edge = 0; edge < costs.length; edge++) {
            x.openTour(0);
        }
        for (int edge = 0; edge < costs.length; edge++) {
            x.insert(costs.length - 1 - edge, 0, 2 * edge + 1);
        }
        return x;
    }

    /** 13 edges that are served back for 31 each, with 13 drives there between them. */
    private static WindyTours manyBackwards() {
        WindyTours x = Due.with("network 2 99;" + "edge 0 1 1 31 1;".repeat(13) + "edge 0 1 1 1 0;depot 0;");
        x.openTour(0);
        for (int edge = 0; edge < 13; edge++) {
            x.insert(0, 0, 2 * edge + 1);
        }
        return x;
    }

    private static void improving() {
        Sentence.holds(30, "Makes the best change with the greatest gain of all edges (of several edges, the one with the smallest index)"
                + " again and again, as long as its gain is greater than 0, but at most a number of times.", () -> {
            WindyTours x = backwards(9, 10, 9);
            Due.is("the greatest gain", x.improve(1), 5);
            Due.is("of edge 1", x.arcAt(1, 0), 2);
            Due.is("of both that are left the smallest index", x.improve(1), 4);
            Due.is("edge 0 in the last tour", x.arcAt(2, 0), 0);
            Due.is("not edge 2 in the first tour", x.arcAt(0, 0), 5);
            Due.is("the last one", x.improve(1), 4);
            Due.is("none is left", x.improve(1), 0);
            Due.is("again and again", backwards(9, 10, 9).improve(3), 13);
            Due.is("but twice", backwards(9, 10, 9).improve(2), 9);
            Due.is("more than there are", backwards(9, 10, 9).improve(4), 13);
        });
        // Six edges come in place of two drives each, one is turned for 30, and six more for 28 each.
        Sentence.holds(30, "`most`: 1 to 10", () -> {
            WindyTours x = manyBackwards();
            Due.is("cost", x.totalCost(), 13 * 32);
            Due.is("ten changes", x.improve(10), 6 * 32 + 30 + 3 * 28);
            Due.is("the three others", x.improve(10), 3 * 28);
            Due.is("no more", x.improve(10), 0);
            Due.is("cost", x.totalCost(), 13 * 2);
            WindyTours y = manyBackwards();
            Due.is("one change", y.improve(1), 32);
            Due.is("one call is one change", y.undo(), 7);
            Due.is("nine changes", y.improve(9), 6 * 32 + 30 + 2 * 28);
        });
        Sentence.holds(30, "Returns the sum of the gains.", () -> {
            Due.is("no network", new WindyTours().improve(1), 0);
            Due.is("no tours", Due.with("network 2 9;" + EDGE + "depot 0;").improve(10), 0);
            WindyTours x = manyBackwards();
            int before = x.totalCost();
            int sum = x.improve(5);
            Due.is("five gains", sum, 160);
            Due.is("what the total loses", before - x.totalCost(), sum);
        });
        Sentence.holds(30, "Throws `IllegalArgumentException` if most is out of range", () -> {
            WindyTours x = manyBackwards();
            for (int most : new int[] {0, 11, -1, -10, 266, Integer.MIN_VALUE, Integer.MAX_VALUE}) {
                Due.noArgument("improve " + most, () -> x.improve(most));
                Due.noArgument("no network, improve " + most, () -> new WindyTours().improve(most));
            }
            Due.is("nothing is changed", x.totalCost(), 13 * 32);
        });
    }
}
