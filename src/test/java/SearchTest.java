/** Promises 24, 29 and 30: the best insertion, build and improve. */
public final class SearchTest {
    private static final String PARALLEL = "network 2 20;edge 0 1 5 5 4;edge 0 1 5 5 4;edge 0 1 5 5 4;edge 0 1 5 5 0;depot 0;";
    /** Edges 0 and 1 go from the depot at 0 to 1 and to 2; one may not come from edge 1 to edge 0. */
    private static final String BANNED = "network 3 20;edge 0 1 5 5 4;edge 0 2 3 3 4;ban 0 1 0;depot 0;";

    public static void main(String[] args) {
        insertionsThatAreNotAllowed();
        smallestIncrease();
        noInsertion();
        smallestTour();
        smallestPosition();
        smallerArc();
        increasesBelowZero();
        building();
        buildingLeavesOut();
        buildingNothing();
        improving();
        improvingBetweenTours();
        improvingFromTheEndOfAnotherTour();
        improvingManyTimes();
        theGreatestGainFirst();
        theSmallestEdgeFirst();
        improvingNothing();
        Due.end();
    }

    private static void insertionsThatAreNotAllowed() {
        WindyTours x = Due.with(PARALLEL);
        for (int edge : new int[] {-1, 4, 14, Integer.MAX_VALUE, Integer.MIN_VALUE}) {
            Due.noIndex("24: bestInsertion " + edge, () -> x.bestInsertion(edge));
        }
        Due.noState("24: demand 0", () -> x.bestInsertion(3));
        x.openTour(0);
        x.insert(0, 0, 3);
        Due.noState("24: served", () -> x.bestInsertion(1));
        Due.noIndex("24: no network", () -> new WindyTours().bestInsertion(0));
    }

    private static void smallestIncrease() {
        WindyTours x = Due.with(PARALLEL);
        x.openTour(0);
        x.insert(0, 0, 0);
        Due.is("24: the way home is served for nothing more", x.bestInsertion(1), 11);
        WindyTours y = Due.with(NetworkTest.FOUR);
        y.openTour(1);
        y.openTour(0);
        Due.is("24: another tour is nearer", y.bestInsertion(1), 1001);
        Due.is("24: nothing is inserted", y.unserved(), 3);
    }

    private static void noInsertion() {
        WindyTours x = Due.with(PARALLEL.replace("20", "7"));
        Due.is("24: no tour", x.bestInsertion(0), -1);
        x.openTour(0);
        x.insert(0, 0, 0);
        Due.is("24: no room", x.bestInsertion(1), -1);
        x.openTour(0);
        Due.is("24: room in another tour", x.bestInsertion(1), 1000);
        WindyTours y = Due.with("network 4 9;edge 0 1 1 1 1;edge 2 3 1 1 1;edge 2 3 1 1 9;depot 0;depot 2;");
        y.openTour(0);
        Due.is("24: no way", y.bestInsertion(1), -1);
        y.openTour(1);
        Due.is("24: a way", y.bestInsertion(1), 1000);
        Due.is("24: a demand of the capacity", y.bestInsertion(2), 1000);
        y.insert(1, 0, 2);
        Due.is("24: no room any more", y.bestInsertion(2), -1);
        WindyTours z = Due.with(BANNED.replace("depot", "ban 0 0 1;depot"));
        z.openTour(0);
        Due.is("24: a tour of its own", z.bestInsertion(1), 0);
        z.insert(0, 0, 0);
        Due.is("24: none with the other edge", z.bestInsertion(1), -1);
        Due.is("29: nor built", z.build(), 0);
    }

    /** Behind arc 0 of tour 0 edge 1 adds 6, as it does in the empty tour; in front of arc 0 the ban makes it dearer. */
    private static void smallestTour() {
        WindyTours x = Due.with(BANNED);
        x.openTour(0);
        x.openTour(0);
        Due.is("24: two empty tours", x.bestInsertion(1), 0);
        x.insert(0, 0, 0);
        Due.is("24: the smallest tour, not the smallest position", x.bestInsertion(1), 10);
        x.undo();
        x.insert(1, 0, 0);
        Due.is("24: the smallest tour is the empty one", x.bestInsertion(1), 0);
    }

    private static void smallestPosition() {
        WindyTours x = Due.with(PARALLEL);
        x.openTour(0);
        x.insert(0, 0, 0);
        x.insert(0, 1, 3);
        Due.is("24: 10 more at each position", x.bestInsertion(2), 0);
        // Behind arc 0, edge 1 adds 10 by either arc; in front of it, only its arc from b adds as little.
        WindyTours y = Due.with("network 3 20;edge 0 1 5 5 4;edge 0 2 9 1 4;edge 0 2 1 9 0;depot 0;");
        y.openTour(0);
        y.insert(0, 0, 0);
        Due.is("24: the smallest position, not the smaller arc", y.bestInsertion(1), 1);
    }

    private static void smallerArc() {
        WindyTours x = Due.with(PARALLEL);
        x.openTour(0);
        Due.is("24: both arcs are as good", x.bestInsertion(2), 0);
        WindyTours y = Due.with("network 2 20;edge 0 1 5 7 4;edge 0 1 5 4 0;depot 0;depot 1;");
        y.openTour(0);
        Due.is("24: 9 by arc 0, 12 by arc 1", y.bestInsertion(0), 0);
        WindyTours z = Due.with("network 2 20;edge 0 1 7 5 4;edge 0 1 4 5 0;depot 0;");
        z.openTour(0);
        Due.is("24: 12 by arc 0, 9 by arc 1", z.bestInsertion(0), 1);
    }

    /** A service for nothing in place of a deadhead makes a tour cheaper. */
    private static void increasesBelowZero() {
        WindyTours x = Due.with("network 2 20;edge 0 1 5 50 4;edge 0 1 60 60 4;edge 0 1 3 70 4;service cost/55*9;depot 0;");
        x.openTour(0);
        x.openTour(0);
        x.insert(1, 0, 0);
        Due.is("20: service 0, return 50", x.tourCost(1), 50);
        Due.is("24: the return is served for 9", x.bestInsertion(1), 1011);
        Due.is("26: 41 less", x.insert(1, 1, 3), 9);
        Due.is("24: 12 more by arc 1, wherever it is put", x.bestInsertion(2), 1);
    }

    private static void building() {
        WindyTours x = Due.with(PARALLEL);
        x.openTour(0);
        Due.is("29: build", x.build(), 3);
        Due.is("22: all are served", x.unserved(), 0);
        Due.is("17: length", x.length(0), 3);
        Due.is("18: edge 2 came last to position 0", x.arcAt(0, 0), 4);
        Due.is("18: edge 0 came first", x.arcAt(0, 1), 0);
        Due.is("18: edge 1 came behind it", x.arcAt(0, 2), 3);
        Due.is("20: cost", x.tourCost(0), 20);
        Due.is("29: build again", x.build(), 0);
    }

    private static void buildingLeavesOut() {
        WindyTours x = Due.with("network 4 9;edge 0 1 5 5 5;edge 2 3 5 5 1;edge 0 1 5 5 5;edge 0 1 5 5 0;edge 0 1 5 5 4;depot 0;");
        x.openTour(0);
        Due.is("29: what has no way, no room or no demand is left out", x.build(), 2);
        Due.is("23: the first one", x.tourOf(0), 0);
        Due.is("23: no way", x.tourOf(1), -1);
        Due.is("23: no room", x.tourOf(2), -1);
        Due.is("23: no demand", x.tourOf(3), -1);
        Due.is("23: a later one has room", x.tourOf(4), 0);
        x.openTour(0);
        Due.is("29: the rest", x.build(), 1);
        Due.is("23: in the new tour", x.tourOf(2), 1);
        Due.is("22: unserved", x.unserved(), 1);
    }

    private static void buildingNothing() {
        Due.is("29: no network", new WindyTours().build(), 0);
        Due.is("29: no tours", Due.with(PARALLEL).build(), 0);
        WindyTours x = Due.with(PARALLEL);
        x.openTour(0);
        x.insert(0, 0, 5);
        Due.is("29: what is served stays", x.build(), 2);
        Due.is("18: before it what adds 0", x.arcAt(0, 1), 0);
        Due.is("18: it", x.arcAt(0, 2), 5);
    }

    private static void improving() {
        WindyTours x = Due.with(NetworkTest.FOUR);
        x.openTour(0);
        x.insert(0, 0, 2);
        Due.is("30: turned round", x.improve(1), 6);
        Due.is("18: the other arc", x.arcAt(0, 0), 3);
        Due.is("20: cost", x.tourCost(0), 12);
        Due.is("30: nothing to gain", x.improve(10), 0);
        for (int most : new int[] {0, -1, 11, Integer.MAX_VALUE, Integer.MIN_VALUE}) {
            Due.noArgument("30: improve " + most, () -> x.improve(most));
        }
        Due.noArgument("30: wrong without a network, too", () -> new WindyTours().improve(0));
    }

    private static void improvingBetweenTours() {
        WindyTours x = Due.with("network 4 9;edge 0 1 5 5 5;edge 1 2 5 5 5;edge 2 3 5 5 4;depot 0;depot 3;");
        x.openTour(0);
        x.openTour(1);
        x.insert(0, 0, 4);
        x.insert(1, 0, 0);
        Due.is("21: each tour drives 30", x.totalCost(), 60);
        Due.is("30: edge 0 to tour 0, and edge 2 stays", x.improve(1), 30);
        Due.is("23: edge 0", x.tourOf(0), 0);
        Due.is("17: the tour that is left stays", x.tourCount(), 2);
        Due.is("30: edge 2 to its own depot", x.improve(1), 10);
        Due.is("30: nothing more", x.improve(1), 0);
        WindyTours y = Due.with("network 4 9;edge 0 1 5 5 5;edge 1 2 5 5 5;edge 2 3 5 5 5;depot 0;depot 3;");
        y.openTour(0);
        y.openTour(1);
        y.insert(0, 0, 4);
        y.insert(1, 0, 0);
        Due.is("30: no room for two", y.improve(10), 0);
    }

    private static void improvingFromTheEndOfAnotherTour() {
        WindyTours x = Due.with("network 2 99;edge 0 1 1 1 1;edge 0 1 5 9 1;edge 0 1 1 1 0;depot 0;");
        x.openTour(0);
        x.openTour(0);
        x.insert(1, 0, 0);
        Due.is("26: there, and dearly back", x.insert(1, 1, 3), 10);
        Due.is("30: there in the first tour, as dear as in its own", x.improve(1), 2);
        TourEdges.arcs("30: the first tour", x, 0, "2");
        TourEdges.arcs("30: what is left of the second tour", x, 1, "0");
        Due.is("30: back by edge 0 for 1, not for 2", x.improve(1), 2);
        TourEdges.arcs("30: edge 0 comes behind edge 1", x, 0, "2 1");
        Due.is("17: nothing is left", x.length(1), 0);
        Due.is("30: as good as can be", x.improve(10), 0);
    }

    /** Three edges at the depot, each of which is served the dear way round in a tour of its own. */
    private static void improvingManyTimes() {
        String text = "network 4 99;edge 0 1 1 1 1;edge 0 2 1 1 1;edge 0 3 1 1 1;ban 0 0 1;ban 0 0 2;ban 0 1 0;ban 0 1 2;"
                + "ban 0 2 0;ban 0 2 1;service cost*0+3;depot 1;depot 2;depot 3;";
        WindyTours x = Due.with(text);
        for (int depot = 0; depot < 3; depot++) {
            x.openTour(depot);
            x.insert(depot, 0, 2 * depot);
        }
        Due.is("30: as good as can be", x.improve(10), 0);
        for (int most = 1; most <= 4; most++) {
            WindyTours y = threeDearTours();
            int before = y.totalCost();
            int gain = y.improve(most);
            Due.is("30: at most " + most, gain, new int[] {0, 90, 150, 180, 180}[most]);
            Due.is("30: the gain is what the total loses", before - y.totalCost(), gain);
        }
    }

    /** Edges 0 to 2 are served away from the depot for 1; each can come back by itself dearly alone. */
    private static WindyTours threeDearTours() {
        WindyTours x = Due.with("network 4 9;edge 0 1 1 31 5;edge 0 2 1 91 5;edge 0 3 1 61 5;edge 0 1 1 1 0;edge 0 2 1 1 0;edge 0 3 1 1 0;depot 0;");
        for (int edge = 0; edge < 3; edge++) {
            x.openTour(0);
            x.insert(edge, 0, 2 * edge + 1);
        }
        return x;
    }

    private static void theGreatestGainFirst() {
        WindyTours x = threeDearTours();
        x.improve(1);
        Due.is("30: edge 0 waits", x.arcAt(0, 0), 1);
        Due.is("30: edge 1 comes first", x.arcAt(1, 0), 2);
        Due.is("30: edge 2 waits", x.arcAt(2, 0), 5);
        x.improve(1);
        Due.is("30: edge 2 comes next", x.arcAt(2, 0), 4);
        Due.is("30: edge 0 still waits", x.arcAt(0, 0), 1);
    }

    private static void theSmallestEdgeFirst() {
        WindyTours x = Due.with("network 3 9;edge 0 1 1 31 5;edge 0 2 1 31 5;edge 0 1 1 1 0;edge 0 2 1 1 0;depot 0;");
        x.openTour(0);
        x.openTour(0);
        x.insert(0, 0, 3);
        x.insert(1, 0, 1);
        Due.is("30: both gain 30", x.improve(1), 30);
        Due.is("30: the smallest edge is changed", x.arcAt(1, 0), 0);
        Due.is("30: not the smallest tour", x.arcAt(0, 0), 3);
    }

    private static void improvingNothing() {
        Due.is("30: no network", new WindyTours().improve(1), 0);
        WindyTours x = Due.with(PARALLEL);
        Due.is("30: no tours", x.improve(10), 0);
        x.openTour(0);
        Due.is("30: unserved edges stay so", x.improve(10), 0);
        Due.is("17: length", x.length(0), 0);
        x.openTour(0);
        x.insert(1, 0, 1);
        Due.is("30: a change without a gain is not made", x.improve(10), 0);
        Due.is("17: it stays in its tour", x.length(1), 1);
        Due.is("18: by its arc", x.arcAt(1, 0), 1);
        WindyTours y = Due.with("network 2 20;edge 0 1 5 5 4;edge 0 1 9 9 4;service 0;depot 0;");
        y.openTour(0);
        Due.is("20: service 0, return 5", y.insert(0, 0, 0), 5);
        Due.is("30: an edge that is not served is not inserted", y.improve(10), 0);
        Due.is("24: though its insertion has an increase of -5", y.bestInsertion(1), 11);
        Due.is("26: this", y.insert(0, 1, 3), 0);
    }
}
