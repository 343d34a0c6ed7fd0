import java.util.NoSuchElementException;

/** Promises 16 to 23 and 25 to 28: the tours, and the changes of one edge. */
public final class ToursTest {
    /** Parallel edges from 0 to 1 and back for 5 each, which serve a depot at 0. */
    private static final String PARALLEL = "network 2 10;edge 0 1 5 5 4;edge 0 1 5 5 4;edge 0 1 5 5 4;edge 0 1 5 5 0;depot 0;";

    /** A triangle that can be driven from 0 over 1 and 2 alone, an arc for 1; a service costs 10. */
    private static final String ONE_WAY = "network 3 99;edge 0 1 1 1 1;edge 1 2 1 1 1;edge 2 0 1 1 1;"
            + "ban 1 1 0;ban 2 2 1;ban 0 0 2;ban 0 0 0;ban 1 0 0;ban 1 1 1;ban 2 1 1;ban 2 2 2;ban 0 2 2;"
            + "service 10;depot 0;";

    public static void main(String[] args) {
        openingTours();
        anEmptyTour();
        costs();
        costsFromOtherDepots();
        whatIsAskedOfTours();
        toursBesideEachOther();
        wrongIndexes();
        insertionsThatAreNotAllowed();
        insertionsThatAreNotPossible();
        capacity();
        dropping();
        droppingOnOneWay();
        flipping();
        flippingThatIsNotAllowed();
        flippingInAnotherTour();
        flippingBehindAnArcThatCannotBeTurned();
        Due.end();
    }

    private static void openingTours() {
        WindyTours x = Due.with("network 4 9;edge 0 1 1 1 1;depot 3;depot 0;depot 3;");
        Due.is("25: first", x.openTour(2), 0);
        Due.is("25: second", x.openTour(1), 1);
        Due.is("16: depotOf 0", x.depotOf(0), 3);
        Due.is("16: depotOf 1", x.depotOf(1), 0);
        Due.noIndex("25: depot 3", () -> x.openTour(3));
        Due.noIndex("25: depot -1", () -> x.openTour(-1));
        Due.is("25: third", x.openTour(0), 2);
        Due.is("25: fourth", x.openTour(1), 3);
        Due.is("8: tourCount", x.tourCount(), 4);
        Due.noState("25: fifth", () -> x.openTour(0));
        Due.noIndex("25: both are wrong", () -> x.openTour(3));
        Due.is("8: tourCount stays", x.tourCount(), 4);
        Due.noIndex("25: no depots", () -> Due.with("network 2 1;").openTour(0));
        Due.noIndex("25: no network", () -> new WindyTours().openTour(0));
    }

    private static void anEmptyTour() {
        WindyTours x = Due.with(NetworkTest.FOUR);
        Due.noIndex("16: no tour", () -> x.depotOf(0));
        x.openTour(1);
        Due.is("16: depotOf", x.depotOf(0), 3);
        Due.is("17: length", x.length(0), 0);
        Due.is("19: load", x.loadOf(0), 0);
        Due.is("20: cost", x.tourCost(0), 0);
        Due.is("21: total", x.totalCost(), 0);
        Due.outThrown("18: arcAt(0, 0)", NoSuchElementException.class, () -> x.arcAt(0, 0));
    }

    /** Tour 0 drives from node 0: 5, 3 to come to arc 2 past the ban, and 4 to go home from it. */
    private static void costs() {
        WindyTours x = Due.with(NetworkTest.FOUR);
        x.openTour(0);
        Due.is("26: approach 7, service 4, return 7", x.insert(0, 0, 2), 18);
        Due.is("26: in front: service 3, deadhead 12", x.insert(0, 0, 0), 26);
        Due.is("26: behind: service 7, no return", x.insert(0, 2, 4), 26);
        Due.is("20: tourCost", x.tourCost(0), 26);
        Due.is("18: arcAt 0", x.arcAt(0, 0), 0);
        Due.is("18: arcAt 1", x.arcAt(0, 1), 2);
        Due.is("18: arcAt 2", x.arcAt(0, 2), 4);
        Due.is("19: loadOf", x.loadOf(0), 6);
        Due.is("27: the middle is dropped", x.drop(1), 16);
        Due.is("26: the middle is put back the other way", x.insert(0, 1, 3), 26);
    }

    private static void costsFromOtherDepots() {
        WindyTours x = Due.with(NetworkTest.FOUR.replace(";ban 1", ";service demand*100;ban 1"));
        x.openTour(1);
        Due.is("26: approach 16, service 200, return 8", x.insert(0, 0, 0), 16 + 200 + 5 + 1 + 2);
        Due.is("26: another order", x.insert(0, 0, 4), 9 + 100 + 0 + 200 + 8);
        x.openTour(0);
        Due.is("26: another tour", x.insert(1, 0, 3), 1 + 300 + 5);
        Due.is("20: the first tour stays", x.tourCost(0), 317);
        Due.is("21: totalCost", x.totalCost(), 623);
        WindyTours y = Due.with("network 3 9;edge 0 1 1 1 1;edge 2 0 1 1 1;depot 1;");
        y.openTour(0);
        Due.is("26: approach 2, service 1, return by arc 0", y.insert(0, 0, 2), 4);
    }

    private static void whatIsAskedOfTours() {
        WindyTours x = Due.with(PARALLEL);
        x.openTour(0);
        x.openTour(0);
        Due.is("22: unserved without demand 0", x.unserved(), 3);
        x.insert(1, 0, 4);
        x.insert(1, 1, 1);
        Due.is("22: unserved", x.unserved(), 1);
        Due.is("17: length", x.length(1), 2);
        Due.is("17: length of the other one", x.length(0), 0);
        Due.is("23: served by its arc from a", x.tourOf(2), 1);
        Due.is("23: served by its arc from b", x.tourOf(0), 1);
        Due.is("23: not served", x.tourOf(1), -1);
        Due.is("23: demand 0", x.tourOf(3), -1);
        Due.is("19: loadOf", x.loadOf(1), 8);
        x.insert(0, 0, 2);
        Due.is("23: the other tour", x.tourOf(1), 0);
        Due.is("22: all are served", x.unserved(), 0);
        Due.is("21: totalCost", x.totalCost(), 20);
    }

    /** Each demand is another power of 2, so that a load tells which edges it counts. */
    private static WindyTours twoTours() {
        WindyTours x = Due.with("network 2 20;edge 0 1 2 3 1;edge 0 1 5 7 2;edge 0 1 11 13 4;edge 0 1 17 19 8;edge 0 1 23 29 16;"
                + "depot 0;depot 1;");
        x.openTour(0);
        x.openTour(1);
        x.insert(0, 0, 0);
        x.insert(1, 0, 3);
        x.insert(1, 1, 4);
        x.insert(1, 2, 7);
        return x;
    }

    private static void toursBesideEachOther() {
        WindyTours x = twoTours();
        Due.is("20: there and back", x.tourCost(0), 2 + 3);
        Due.is("20: two ways there, two back", x.tourCost(1), 7 + 11 + 19 + 2);
        Due.is("19: the load of the first tour", x.loadOf(0), 1);
        Due.is("19: the load of the second tour", x.loadOf(1), 2 + 4 + 8);
        Due.noState("26: the second tour has no room", () -> x.insert(1, 0, 8));
        Due.is("24: but the first one has", x.bestInsertion(4), 0);
        Due.is("27: from the middle of the second tour", x.drop(2), 7 + 2 + 19 + 2);
        TourEdges.arcs("18: the second tour", x, 1, "3 7");
        TourEdges.arcs("18: the first tour stays", x, 0, "0");
        Due.is("27: the last one of the second tour", x.drop(3), 7 + 2);
        TourEdges.arcs("18: the second tour", x, 1, "3");
        Due.is("19: its load", x.loadOf(1), 2);
        Due.is("26: it has room now", x.insert(1, 1, 8), 7 + 23);
        Due.is("19: its load", x.loadOf(1), 18);
        Due.is("28: the last one of the second tour", x.flip(4), 7 + 2 + 29 + 2);
        TourEdges.arcs("18: the second tour", x, 1, "3 9");
    }

    private static void wrongIndexes() {
        WindyTours x = Due.with(PARALLEL);
        x.openTour(0);
        x.insert(0, 0, 0);
        for (int tour : new int[] {-1, 1, 4, Integer.MAX_VALUE, Integer.MIN_VALUE}) {
            Due.noIndex("16: depotOf " + tour, () -> x.depotOf(tour));
            Due.noIndex("17: length " + tour, () -> x.length(tour));
            Due.noIndex("18: arcAt " + tour, () -> x.arcAt(tour, 0));
            Due.noIndex("18: arcAt, both are wrong " + tour, () -> x.arcAt(tour, 9));
            Due.noIndex("19: loadOf " + tour, () -> x.loadOf(tour));
            Due.noIndex("20: tourCost " + tour, () -> x.tourCost(tour));
            Due.noIndex("26: insert " + tour, () -> x.insert(tour, 0, 2));
        }
        for (int position : new int[] {-1, 1, 14, Integer.MAX_VALUE, Integer.MIN_VALUE}) {
            Due.outThrown("18: arcAt 0 " + position, NoSuchElementException.class, () -> x.arcAt(0, position));
        }
        for (int position : new int[] {-1, 2, 14, Integer.MAX_VALUE, Integer.MIN_VALUE}) {
            Due.noIndex("26: insert at " + position, () -> x.insert(0, position, 2));
        }
        for (int arc : new int[] {-1, 8, Integer.MAX_VALUE, Integer.MIN_VALUE}) {
            Due.noIndex("26: insert of " + arc, () -> x.insert(0, 0, arc));
        }
        for (int edge : new int[] {-1, 4, Integer.MAX_VALUE, Integer.MIN_VALUE}) {
            Due.noIndex("23: tourOf " + edge, () -> x.tourOf(edge));
            Due.noIndex("27: drop " + edge, () -> x.drop(edge));
            Due.noIndex("28: flip " + edge, () -> x.flip(edge));
        }
    }

    private static void insertionsThatAreNotAllowed() {
        WindyTours x = Due.with(PARALLEL);
        x.openTour(0);
        x.openTour(0);
        x.insert(0, 0, 0);
        Due.noState("26: served", () -> x.insert(0, 1, 0));
        Due.noState("26: served by the other arc", () -> x.insert(0, 1, 1));
        Due.noState("26: served by another tour", () -> x.insert(1, 0, 0));
        Due.noState("26: demand 0", () -> x.insert(0, 0, 6));
        Due.noState("26: demand 0, the other arc", () -> x.insert(0, 0, 7));
        Due.noIndex("26: served, and no such position", () -> x.insert(0, 2, 0));
        Due.is("17: nothing is inserted", x.length(0) + x.length(1), 1);
        Due.is("31: nor counted as a change", x.undo(), 3);
    }

    private static void insertionsThatAreNotPossible() {
        WindyTours x = Due.with("network 5 99;edge 0 1 1 1 1;edge 1 2 1 1 1;edge 3 4 1 1 1;ban 1 0 1;depot 0;depot 2;");
        x.openTour(0);
        x.openTour(1);
        Due.noState("26: no approach past a ban", () -> x.insert(0, 0, 2));
        Due.noState("26: no approach to another part", () -> x.insert(0, 0, 4));
        Due.noState("26: no return", () -> x.insert(1, 0, 0));
        Due.is("26: approach and return", x.insert(1, 0, 2), 2);
        Due.noState("26: no deadhead behind it", () -> x.insert(1, 0, 1));
        Due.noState("26: no return past the ban", () -> x.insert(1, 1, 1));
        Due.is("17: length", x.length(1), 1);
        WindyTours y = Due.with(ONE_WAY.replace("service 10", "service 0"));
        y.openTour(0);
        Due.is("26: approach 1, return 1", y.insert(0, 0, 2), 2);
        Due.noState("26: no deadhead, in place of the approach", () -> y.insert(0, 0, 5));
        Due.noState("26: no deadhead, in place of the return", () -> y.insert(0, 1, 1));
    }

    private static void capacity() {
        WindyTours x = Due.with("network 2 10;edge 0 1 5 5 4;edge 0 1 5 5 6;edge 0 1 5 5 1;edge 0 1 5 5 11;depot 0;");
        x.openTour(0);
        x.openTour(0);
        Due.noState("26: a demand above the capacity", () -> x.insert(0, 0, 6));
        x.insert(0, 0, 0);
        Due.is("26: up to the capacity", x.insert(0, 1, 3), 10);
        Due.is("19: the load is the capacity", x.loadOf(0), 10);
        Due.noState("26: beyond the capacity", () -> x.insert(0, 0, 4));
        Due.is("26: another tour has room", x.insert(1, 0, 4), 10);
        x.drop(1);
        Due.is("19: the load without it", x.loadOf(0), 4);
    }

    private static void dropping() {
        WindyTours x = Due.with(PARALLEL);
        x.openTour(0);
        x.openTour(0);
        x.insert(1, 0, 0);
        x.insert(1, 1, 3);
        Due.is("27: the first one", x.drop(0), 10);
        Due.is("18: the others move down", x.arcAt(1, 0), 3);
        Due.is("17: length", x.length(1), 1);
        Due.is("23: not served now", x.tourOf(0), -1);
        Due.noState("27: it is not served now", () -> x.drop(0));
        Due.noState("27: demand 0", () -> x.drop(3));
        Due.is("27: the last one", x.drop(1), 0);
        Due.is("17: no arcs", x.length(1), 0);
        Due.is("26: it can be served again", x.insert(0, 0, 3), 10);
    }

    /** A way through an arc stays a way when the arc is driven only, so that each tour is drivable without it. */
    private static void droppingOnOneWay() {
        WindyTours x = Due.with(ONE_WAY);
        x.openTour(0);
        x.insert(0, 0, 0);
        x.insert(0, 1, 2);
        Due.is("26: service costs 10 each, the last arc is driven", x.insert(0, 2, 4), 30);
        Due.is("27: a deadhead in its place", x.drop(1), 21);
        Due.is("27: an approach in its place", x.drop(0), 12);
        Due.is("26: again", x.insert(0, 0, 0), 21);
        Due.is("27: a return in its place", x.drop(2), 12);
        Due.is("27: nothing left", x.drop(0), 0);
        WindyTours y = deadEndTour();
        Due.is("27: nothing needs to follow the last arc", y.drop(1), 3);
        WindyTours z = deadStartTour();
        Due.is("27: the first arc needs to follow nothing", z.drop(1), 3);
    }

    /** At the depot one may not go on from the last arc of this tour. */
    private static WindyTours deadEndTour() {
        WindyTours x = Due.with("network 3 9;edge 0 1 1 1 1;edge 1 2 1 1 1;edge 2 0 1 1 1;ban 2 1 1;ban 0 2 0;ban 0 2 2;depot 0;");
        x.openTour(0);
        x.insert(0, 0, 0);
        x.insert(0, 1, 2);
        Due.is("26: round", x.insert(0, 2, 4), 3);
        return x;
    }

    /** The same tour the other way round: at the depot one may not come to its first arc. */
    private static WindyTours deadStartTour() {
        WindyTours x = Due.with("network 3 9;edge 0 1 1 1 1;edge 1 2 1 1 1;edge 2 0 1 1 1;ban 2 1 1;ban 0 0 2;ban 0 2 2;depot 0;");
        x.openTour(0);
        x.insert(0, 0, 5);
        x.insert(0, 1, 3);
        Due.is("26: round", x.insert(0, 2, 1), 3);
        return x;
    }

    private static void flipping() {
        WindyTours x = Due.with(NetworkTest.FOUR);
        x.openTour(1);
        x.openTour(0);
        x.insert(1, 0, 2);
        Due.is("28: approach 1, service 6, return 5", x.flip(1), 12);
        Due.is("18: the other arc", x.arcAt(1, 0), 3);
        Due.is("28: back", x.flip(1), 18);
        x.insert(1, 0, 0);
        x.insert(1, 2, 4);
        Due.is("28: in the middle", x.flip(1), 26);
        Due.is("18: before it", x.arcAt(1, 0), 0);
        Due.is("18: at the same position", x.arcAt(1, 1), 3);
        Due.is("18: behind it", x.arcAt(1, 2), 4);
        Due.is("28: at the start", x.flip(0), 3 + 5 + 1 + 6 + 4 + 7);
        Due.is("17: length", x.length(1), 3);
        Due.is("19: the load stays", x.loadOf(1), 6);
        Due.is("23: the tour stays", x.tourOf(0), 1);
    }

    private static void flippingThatIsNotAllowed() {
        WindyTours x = Due.with(ONE_WAY);
        x.openTour(0);
        Due.noState("28: not served", () -> x.flip(0));
        x.insert(0, 0, 0);
        x.insert(0, 1, 4);
        long sum = x.checksum();
        Due.noState("28: no way home from it", () -> x.flip(0));
        Due.noState("28: no way to it", () -> x.flip(2));
        Due.noState("28: not served, still", () -> x.flip(1));
        Due.is("28: nothing changes then", x.checksum(), sum);
        Due.is("31: nor is it counted as a change", x.undo(), 3);
        x.drop(0);
        x.insert(0, 0, 4);
        Due.noState("28: an approach, but no return", () -> x.flip(2));
        WindyTours y = Due.with(PARALLEL);
        y.openTour(0);
        Due.noState("28: demand 0", () -> y.flip(3));
        WindyTours end = deadEndTour();
        Due.noState("28: the arc before the last one leads to the last one alone", () -> end.flip(2));
        Due.is("28: deadheads 2 and 1", end.flip(1), 6);
        WindyTours start = deadStartTour();
        Due.noState("28: the arc behind the first one follows the first one alone", () -> start.flip(2));
        Due.is("28: deadheads 1 and 2", start.flip(1), 6);
    }

    /** One tour goes round the triangle that can be driven one way alone, the other one there and back in another part. */
    private static WindyTours roundAndBack(int round, int back) {
        WindyTours x = Due.with(ONE_WAY.replace("network 3", "network 5").replace("service 10",
                "edge 3 4 2 3 1;edge 3 4 5 7 1;depot 3"));
        x.openTour(round == 0 ? 1 : 0);
        x.openTour(round == 0 ? 0 : 1);
        for (int position = 0; position < 3; position++) {
            x.insert(round, position, 2 * position);
        }
        x.insert(back, 0, 6);
        x.insert(back, 1, 9);
        return x;
    }

    private static void flippingInAnotherTour() {
        for (int round = 0; round < 2; round++) {
            WindyTours x = roundAndBack(round, 1 - round);
            for (int edge = 0; edge < 3; edge++) {
                int turned = edge;
                Due.noState("28: round in tour " + round + ", edge " + edge, () -> x.flip(turned));
            }
            TourEdges.arcs("28: nothing is turned", x, round, "0 2 4");
            Due.is("28: the first one", x.flip(3), 2 + 3 + 2 + 7);
            TourEdges.arcs("28: it is turned", x, 1 - round, "7 9");
            Due.is("28: the second one", x.flip(4), 2 + 3 + 5 + 3);
            TourEdges.arcs("28: both are turned", x, 1 - round, "7 8");
            Due.is("21: both tours", x.totalCost(), 3 + 13);
        }
    }

    /** Nothing may come to arc 1. Behind arc 0, edge 1 can be served by either arc all the same. */
    private static void flippingBehindAnArcThatCannotBeTurned() {
        WindyTours x = Due.with("network 3 9;edge 0 1 2 3 1;edge 1 2 5 7 1;edge 2 0 11 13 0;ban 1 0 0;ban 1 1 0;depot 0;");
        x.openTour(0);
        x.insert(0, 0, 0);
        Due.is("26: round", x.insert(0, 1, 2), 2 + 5 + 11);
        Due.noState("28: no way to arc 1", () -> x.flip(0));
        Due.is("28: there, back, and there again", x.flip(1), 2 + 5 + 7 + 5 + 11);
        TourEdges.arcs("28: it is turned", x, 0, "0 3");
    }
}
