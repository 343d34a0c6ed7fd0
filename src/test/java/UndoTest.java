import java.math.BigInteger;

/** Promises 31 and 32: undo and checksum. */
public final class UndoTest {
    private static final String TEXT = "network 2 20;edge 0 1 5 5 4;edge 0 1 5 5 4;edge 0 1 5 5 4;edge 0 1 5 5 0;depot 0;depot 1;";

    public static void main(String[] args) {
        nothingToUndo();
        eachChangeIsUndone();
        eightChanges();
        changesBehindUndos();
        changesThatAlterNothing();
        callsThatAreNoChanges();
        loads();
        theBufferAndTheErrorStay();
        checksums();
        Due.end();
    }

    private static void nothingToUndo() {
        WindyTours x = new WindyTours();
        Due.is("31: a new object", x.undo(), -1);
        Due.loaded(x, TEXT);
        Due.is("31: the load", x.undo(), 0);
        Due.is("31: no network again", x.nodeCount() + x.edgeCount() + x.depotCount(), 0);
        Due.is("31: nothing more", x.undo(), -1);
        Due.is("31: nor then", x.undo(), -1);
    }

    private static void eachChangeIsUndone() {
        WindyTours x = Due.with(TEXT);
        long[] sums = new long[7];
        sums[1] = x.checksum();
        x.openTour(1);
        sums[2] = x.checksum();
        x.insert(0, 0, 2);
        sums[3] = x.checksum();
        x.flip(1);
        sums[4] = x.checksum();
        x.build();
        sums[5] = x.checksum();
        x.drop(1);
        sums[6] = x.checksum();
        Due.is("31: the drop", x.undo(), 5);
        Due.is("31: before it", x.checksum(), sums[5]);
        Due.is("31: the tour serves the edge", x.tourOf(1), 0);
        Due.is("31: build", x.undo(), 4);
        Due.is("31: before it", x.checksum(), sums[4]);
        Due.is("31: the flip", x.undo(), 3);
        Due.is("31: before it", x.checksum(), sums[3]);
        Due.is("31: the insertion", x.undo(), 2);
        Due.is("31: before it", x.checksum(), sums[2]);
        Due.is("31: the tour is empty", x.length(0), 0);
        Due.is("31: the tour", x.undo(), 1);
        Due.is("31: before it", x.checksum(), sums[1]);
        Due.is("31: no tour", x.tourCount(), 0);
        WindyTours y = Due.with(NetworkTest.FOUR);
        y.openTour(0);
        y.insert(0, 0, 2);
        y.improve(3);
        Due.is("31: improve", y.undo(), 3);
        Due.is("31: the dear way again", y.tourCost(0), 18);
    }

    private static void eightChanges() {
        WindyTours x = Due.with(TEXT);
        x.openTour(0);
        for (int i = 0; i < 5; i++) {
            x.insert(0, 0, 0);
            x.drop(0);
        }
        for (int left = 7; left >= 0; left--) {
            Due.is("31: undo", x.undo(), left);
            Due.is("31: served or not", x.length(0), left % 2);
        }
        Due.is("31: the ninth one", x.undo(), -1);
        Due.is("31: nothing changes then", x.tourCount(), 1);
        Due.is("31: nor the network", x.edgeCount(), 4);
    }

    private static void changesBehindUndos() {
        WindyTours x = Due.with(TEXT);
        for (int i = 0; i < 4; i++) {
            x.openTour(i % 2);
        }
        for (int i = 0; i < 6; i++) {
            x.build();
        }
        Due.is("31: of eleven", x.undo(), 7);
        Due.is("31: again", x.undo(), 6);
        Due.is("31: again", x.undo(), 5);
        x.drop(0);
        x.drop(1);
        Due.is("31: five and two, less one", x.undo(), 6);
        Due.is("22: one is dropped", x.unserved(), 1);
        Due.is("31: the other drop", x.undo(), 5);
        Due.is("22: none is dropped", x.unserved(), 0);
        x.undo();
        x.undo();
        Due.is("31: the first build", x.undo(), 2);
        Due.is("22: before it", x.unserved(), 3);
        Due.is("31: the fourth tour", x.undo(), 1);
        Due.is("31: the third tour", x.undo(), 0);
        Due.is("8: two tours are left", x.tourCount(), 2);
        Due.is("31: the first changes are kept no more", x.undo(), -1);
    }

    private static void changesThatAlterNothing() {
        WindyTours x = new WindyTours();
        x.build();
        x.improve(1);
        x.build();
        Due.is("31: each counts", x.undo(), 2);
        Due.is("31: each counts", x.undo(), 1);
        Due.is("31: each counts", x.undo(), 0);
        Due.is("31: no more", x.undo(), -1);
    }

    private static void callsThatAreNoChanges() {
        WindyTours x = Due.with(TEXT);
        x.openTour(0);
        x.insert(0, 0, 0);
        Due.noIndex("31: openTour", () -> x.openTour(2));
        Due.noIndex("31: insert", () -> x.insert(0, 5, 2));
        Due.noState("31: insert", () -> x.insert(0, 0, 1));
        Due.noState("31: drop", () -> x.drop(1));
        Due.noState("31: flip", () -> x.flip(1));
        Due.noIndex("31: flip", () -> x.flip(4));
        Due.noArgument("31: improve", () -> x.improve(11));
        Due.noArgument("31: load", () -> x.load(1));
        Due.is("31: a load with an error", Due.loaded(x, "network"), WindyTours.SYNTAX_ERROR);
        x.bestInsertion(1);
        x.checksum();
        Due.is("31: only three changes", x.undo(), 2);
    }

    private static void loads() {
        WindyTours x = Due.with(NetworkTest.FOUR.replace("depot 0", "service cost+1;depot 0"));
        x.openTour(1);
        x.insert(0, 0, 0);
        long sum = x.checksum();
        Due.loaded(x, "network 2 1;edge 0 1 9 9 1;depot 0;");
        x.openTour(0);
        Due.is("31: a tour", x.undo(), 4);
        Due.is("31: the load", x.undo(), 3);
        Due.is("31: nodes", x.nodeCount(), 4);
        Due.is("31: edges", x.edgeCount(), 4);
        Due.is("31: depots", x.depotCount(), 2);
        Due.is("31: tours", x.tourCount(), 1);
        Due.is("31: an edge", x.edge(3, 3), 9);
        Due.is("31: services", x.serviceCost(7), 10);
        Due.no("31: bans", x.mayFollow(0, 2));
        Due.is("31: deadheads", x.deadhead(0, 2), 12);
        Due.is("31: deadheads", x.deadhead(0, 0), 13);
        Due.is("31: distances", x.distance(3, 0), 16);
        Due.is("31: distances", x.distance(0, 1), 3);
        Due.is("31: checksum", x.checksum(), sum);
        Due.is("31: the capacity", x.insert(0, 0, 4), 9 + 8 + 0 + 4 + 8);
        for (int i = 0; i < 9; i++) {
            Due.loaded(x, "network " + (i % 7 + 2) + " 1;");
        }
        for (int i = 7; i >= 0; i--) {
            Due.is("31: load " + i, x.undo(), i);
            Due.is("31: its nodes", x.nodeCount(), i % 7 + 2);
        }
        Due.is("31: no more", x.undo(), -1);
    }

    private static void theBufferAndTheErrorStay() {
        WindyTours x = Due.with(TEXT);
        Due.loaded(x, "network 2 x");
        Due.appended(x, "network 3 1;");
        Due.is("31: undo", x.undo(), 0);
        Due.is("31: the error offset stays", x.errorOffset(), 10);
        Due.is("31: the buffer stays", x.load(12), 0);
        Due.is("31: nodes", x.nodeCount(), 3);
        Due.is("31: the error offset is that of this load", x.errorOffset(), -1);
        Due.is("31: undo of it", x.undo(), 0);
        Due.is("31: the buffer stays empty", x.append(0, 0, 0, 0, 0), 20);
    }

    private static void checksums() {
        Due.is("32: no network", new WindyTours().checksum(), 0);
        WindyTours x = Due.with(TEXT);
        Due.is("32: unserved alone", x.checksum(), 3);
        x.openTour(1);
        Due.is("32: a tour without arcs", x.checksum(), (3 * 31 + 1) * 31);
        x.insert(0, 0, 1);
        Due.is("32: cost 10, unserved 2, node 1, length 1, arc 1", x.checksum(),
                (((10 * 31 + 2) * 31 + 1) * 31 + 1) * 31 + 1);
        x.openTour(0);
        x.build();
        x.openTour(1);
        Due.is("32: several tours", x.checksum(), literal(x));
        WindyTours y = Due.with("network 8 999;" + "edge 3 5 99 98 9;".repeat(14) + "service 9999;depot 3;depot 5;");
        y.openTour(0);
        y.openTour(1);
        y.build();
        Due.is("32: overflow", y.checksum(), literal(y));
        Due.yes("32: it did overflow", literalSum(y).bitLength() > 64);
    }

    private static long literal(WindyTours x) {
        return literalSum(x).longValue();
    }

    private static BigInteger literalSum(WindyTours x) {
        BigInteger sum = with(with(BigInteger.ZERO, x.totalCost()), x.unserved());
        for (int tour = 0; tour < x.tourCount(); tour++) {
            sum = with(with(sum, x.depotOf(tour)), x.length(tour));
            for (int position = 0; position < x.length(tour); position++) {
                sum = with(sum, x.arcAt(tour, position));
            }
        }
        return sum;
    }

    private static BigInteger with(BigInteger sum, int number) {
        return sum.multiply(BigInteger.valueOf(31)).add(BigInteger.valueOf(number));
    }
}
