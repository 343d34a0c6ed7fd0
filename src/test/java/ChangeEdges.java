import java.util.function.Consumer;
import java.util.function.ToLongFunction;

/** Sentences about changes, exceptions and the life of an object, and those of promises 31 and 32. */
final class ChangeEdges {
    private static final String EDGE = "edge 0 1 1 1 1;";
    private static final String TEXT = "network 2 99;" + EDGE + EDGE + "edge 0 1 1 1 0;depot 0;";
    /** Tour 0 of this text serves edge 0 by its dear arc. */
    private static final String DEAR = "network 2 99;edge 0 1 1 9 1;edge 0 1 1 1 1;depot 0;";

    private ChangeEdges() {
    }

    static void run() {
        whatIsAChange();
        eightChanges();
        noNetwork();
        refusedCalls();
        undoing();
        checksums();
        manyCalls();
    }

    private static void said(String words, Runnable test) {
        Sentence.holds(Sentence.DESCRIPTION, words, test);
    }

    private static WindyTours dear() {
        WindyTours x = Due.with(DEAR);
        x.openTour(0);
        x.insert(0, 0, 1);
        return x;
    }

    /** The change is one more to undo, and undone the data are as before. */
    private static void isChange(String what, Consumer<WindyTours> change) {
        WindyTours x = dear();
        String before = Shot.of(x);
        change.accept(x);
        Due.is(what + " is undone", x.undo(), 3);
        Due.yes(what + ": the data are as before", Shot.of(x).equals(before));
        Due.is(what + ": the change before is undone", x.undo(), 2);
        Due.is(what + ": no arcs then", x.length(0), 0);
    }

    private static void isNoChange(String what, Consumer<WindyTours> call) {
        WindyTours x = dear();
        call.accept(x);
        Due.is(what + " is not undone, but the insertion", x.undo(), 2);
        Due.is(what + ": no arcs then", x.length(0), 0);
    }

    private static void whatIsAChange() {
        said("The changing methods are load (when it succeeds), openTour, insert, drop, flip, build and improve; each such call that does"
                + " not throw an exception is a change, also if all data stay as they were.", () -> {
            isChange("load", x -> Due.loaded(x, "network 8 1;"));
            isChange("openTour", x -> x.openTour(0));
            isChange("insert", x -> x.insert(0, 1, 2));
            isChange("drop", x -> x.drop(0));
            isChange("flip", x -> x.flip(0));
            isChange("build", WindyTours::build);
            isChange("improve", x -> x.improve(1));
            isNoChange("load that fails", x -> Due.loaded(x, "network 8"));
            isNoChange("append", x -> x.append(0, 0, 0, 0, 0));
            isNoChange("bestInsertion", x -> x.bestInsertion(1));
            isNoChange("the questions", Shot::of);
            WindyTours y = new WindyTours();
            y.build();
            y.improve(10);
            Due.is("improve without a network", y.undo(), 1);
            Due.is("build without a network", y.undo(), 0);
            WindyTours z = Due.with(TEXT);
            z.openTour(0);
            z.build();
            long sum = z.checksum();
            z.build();
            z.improve(1);
            z.build();
            Due.is("data stay as they were", z.checksum(), sum);
            Due.is("build with nothing to insert", z.undo(), 5);
            Due.is("improve with nothing to gain", z.undo(), 4);
            Due.is("build with nothing to insert", z.undo(), 3);
            Due.is("data stay as they were", z.checksum(), sum);
        });
    }

    /** Opens a tour, and then drops and inserts edge 0 by turns until so many changes are made, with the load. */
    private static WindyTours changed(int changes) {
        WindyTours x = Due.with(TEXT);
        x.openTour(0);
        for (int change = 2; change < changes; change++) {
            if (change % 2 == 0) {
                x.insert(0, 0, 0);
            } else {
                x.drop(0);
            }
        }
        return x;
    }

    private static void eightChanges() {
        said("The latest 8 changes that have not been undone can be undone, the latest one first.", () -> {
            for (int changes = 2; changes <= 30; changes++) {
                WindyTours x = changed(changes);
                int most = Math.min(changes, 8);
                for (int left = most - 1; left >= 0; left--) {
                    Due.is(changes + " changes, undo", x.undo(), left);
                    int stand = changes - most + left;
                    Due.is(changes + " changes, arcs of " + stand, x.tourCount() == 0 ? 0 : x.length(0), stand > 2 ? stand % 2 : 0);
                }
                Due.is(changes + " changes, no more", x.undo(), -1);
                Due.is(changes + " changes, edges", x.edgeCount(), changes <= 8 ? 0 : 3);
            }
            WindyTours y = changed(20);
            for (int time = 0; time < 8; time++) {
                y.undo();
            }
            y.openTour(0);
            Due.is("a change behind eight that are undone", y.undo(), 0);
            Due.is("no more", y.undo(), -1);
            WindyTours z = changed(9);
            for (int time = 0; time < 20; time++) {
                z.build();
                Due.is("the latest one again and again", z.undo(), 7);
            }
        });
    }

    private static void noNetwork() {
        said("Before the first successful load there is no network: there are no nodes, edges, depots and tours.", () -> {
            WindyTours failed = new WindyTours();
            Due.loaded(failed, "network 2 9;edge 0 1 1 1 1;depot 0;x");
            WindyTours undone = Due.with(TEXT);
            undone.openTour(0);
            undone.build();
            undone.undo();
            undone.undo();
            undone.undo();
            for (WindyTours x : new WindyTours[] {new WindyTours(), failed, undone}) {
                Due.is("counts", x.nodeCount() + x.edgeCount() + x.depotCount() + x.tourCount(), 0);
                Due.noIndex("edge", () -> x.edge(0, 0));
                Due.noIndex("mayFollow", () -> x.mayFollow(0, 0));
                Due.noIndex("deadhead", () -> x.deadhead(0, 0));
                Due.noIndex("distance", () -> x.distance(0, 0));
                Due.noIndex("serviceCost", () -> x.serviceCost(0));
                Due.is("oddNodes", x.oddNodes(), 0);
                Due.is("matching", x.matching(), 0);
                Due.noIndex("depotOf", () -> x.depotOf(0));
                Due.noIndex("length", () -> x.length(0));
                Due.noIndex("arcAt", () -> x.arcAt(0, 0));
                Due.noIndex("loadOf", () -> x.loadOf(0));
                Due.noIndex("tourCost", () -> x.tourCost(0));
                Due.is("totalCost", x.totalCost(), 0);
                Due.is("unserved", x.unserved(), 0);
                Due.noIndex("tourOf", () -> x.tourOf(0));
                Due.noIndex("bestInsertion", () -> x.bestInsertion(0));
                Due.noIndex("openTour", () -> x.openTour(0));
                Due.noIndex("insert", () -> x.insert(0, 0, 0));
                Due.noIndex("drop", () -> x.drop(0));
                Due.noIndex("flip", () -> x.flip(0));
                Due.is("build", x.build(), 0);
                Due.is("improve", x.improve(10), 0);
                Due.is("checksum", x.checksum(), 0);
                Due.is("undo of improve", x.undo(), 1);
                Due.is("undo of build", x.undo(), 0);
                Due.is("undo", x.undo(), -1);
            }
        });
    }

    private static void refusedCalls() {
        said("If several exceptions apply to a call, the one that is listed first with the method is thrown.", () -> {
            WindyTours x = Due.with(TEXT);
            for (int tour = 0; tour < 4; tour++) {
                x.openTour(0);
            }
            x.insert(0, 0, 0);
            Due.noIndex("no such edge, no such what", () -> x.edge(3, 5));
            Due.noIndex("no such edge, no such what", () -> x.edge(-1, -1));
            Due.noIndex("no such tour, no such position", () -> x.arcAt(4, 9));
            Due.noIndex("no such tour, no such position", () -> x.arcAt(-1, -1));
            Due.noIndex("no such depot, and 4 tours", () -> x.openTour(1));
            Due.noIndex("no such depot, and 4 tours", () -> x.openTour(-1));
            Due.noIndex("no such tour, and served", () -> x.insert(4, 0, 0));
            Due.noIndex("no such position, and served", () -> x.insert(0, 2, 0));
            Due.noIndex("no such position, and demand 0", () -> x.insert(0, -1, 4));
            Due.noIndex("no such arc", () -> x.insert(0, 0, 6));
        });
        said("A method that throws an exception changes nothing.", () -> {
            WindyTours x = Due.with("network 2 1;" + EDGE + EDGE + "edge 0 1 1 1 0;ban 1 0 0;ban 1 1 1;depot 0;depot 1;");
            Due.loaded(x, "   ?");
            for (int tour = 0; tour < 4; tour++) {
                x.openTour(tour % 2);
            }
            x.insert(0, 0, 0);
            Due.appended(x, "network 3 1;");
            String before = Shot.of(x);
            Due.noArgument("load", () -> x.load(21));
            Due.noArgument("load", () -> x.load(-1));
            Due.noIndex("edge", () -> x.edge(3, 0));
            Due.noArgument("edge", () -> x.edge(0, 5));
            Due.noIndex("mayFollow", () -> x.mayFollow(0, 6));
            Due.noIndex("deadhead", () -> x.deadhead(6, 0));
            Due.noIndex("distance", () -> x.distance(0, 2));
            Due.noIndex("serviceCost", () -> x.serviceCost(6));
            Due.noIndex("depotOf", () -> x.depotOf(4));
            Due.noIndex("length", () -> x.length(4));
            Due.noIndex("arcAt", () -> x.arcAt(4, 0));
            Due.noElement("arcAt", () -> x.arcAt(0, 1));
            Due.noIndex("loadOf", () -> x.loadOf(4));
            Due.noIndex("tourCost", () -> x.tourCost(4));
            Due.noIndex("tourOf", () -> x.tourOf(3));
            Due.noIndex("bestInsertion", () -> x.bestInsertion(3));
            Due.noState("bestInsertion", () -> x.bestInsertion(0));
            Due.noIndex("openTour", () -> x.openTour(2));
            Due.noState("openTour", () -> x.openTour(0));
            Due.noIndex("insert", () -> x.insert(0, 2, 2));
            Due.noState("insert, served", () -> x.insert(1, 0, 0));
            Due.noState("insert, demand 0", () -> x.insert(0, 0, 4));
            Due.noState("insert, no room", () -> x.insert(0, 0, 2));
            Due.noIndex("drop", () -> x.drop(3));
            Due.noState("drop", () -> x.drop(1));
            Due.noIndex("flip", () -> x.flip(3));
            Due.noState("flip", () -> x.flip(2));
            Due.noArgument("improve", () -> x.improve(0));
            Due.noArgument("improve", () -> x.improve(11));
            Due.yes("the data", Shot.of(x).equals(before));
            Due.is("the error offset", x.errorOffset(), 3);
            Due.is("the latest change", x.undo(), 5);
            Due.is("it was the insertion", x.length(0), 0);
            Due.is("the buffer", x.load(12), 0);
            Due.is("its text", x.nodeCount(), 3);
        });
    }

    private static void undoing() {
        Sentence.holds(31, "Undoes the latest change that has not been undone.", () -> {
            WindyTours x = Due.with(TEXT);
            x.openTour(0);
            x.insert(0, 0, 0);
            x.insert(0, 1, 3);
            x.flip(1);
            x.undo();
            TourEdges.arcs("the flip is undone", x, 0, "0 3");
            x.drop(0);
            x.undo();
            TourEdges.arcs("the drop is undone, not the flip again", x, 0, "0 3");
            x.undo();
            TourEdges.arcs("the latest one before", x, 0, "0");
            WindyTours y = Due.with(TEXT + "ban 1 0 0;service 7;");
            y.openTour(0);
            y.build();
            String before = Shot.of(y);
            boolean banned = y.mayFollow(0, 1);
            Due.loaded(y, "network 8 1;" + "edge 0 7 9 9 9;".repeat(14) + "depot 7;depot 6;depot 5;");
            Due.loaded(y, "network 2 1;");
            y.undo();
            Due.is("the load before", y.edgeCount(), 14);
            y.undo();
            Due.yes("all that two loads replaced", Shot.of(y).equals(before));
            Due.is("its bans", y.mayFollow(0, 1) ? 1 : 0, banned ? 1 : 0);
            Due.noState("its tours are as full", () -> y.bestInsertion(1));
        });
        Sentence.holds(31, "The input buffer and the error offset are not affected.", () -> {
            WindyTours x = Due.with(TEXT);
            Due.loaded(x, "network 9 9;");
            Due.appended(x, "network 5 9;");
            Due.is("undo", x.undo(), 0);
            Due.is("the error offset", x.errorOffset(), 8);
            Due.is("undo of nothing", x.undo(), -1);
            Due.is("the error offset", x.errorOffset(), 8);
            Due.is("one piece more", x.append(0, 0, 0, 0, 0), 40);
            Due.is("the buffer", x.load(12), 0);
            Due.is("its text", x.nodeCount(), 5);
            x.undo();
            Due.is("no error of the load that is undone", x.errorOffset(), -1);
            Due.noArgument("its text is not in the buffer again", () -> x.load(1));
        });
        Sentence.holds(31, "Returns the number of changes that can still be undone; -1 if there was none to undo, and nothing changes then.", () -> {
            Due.is("a new object", new WindyTours().undo(), -1);
            WindyTours x = Due.with(TEXT);
            Due.is("the only one", x.undo(), 0);
            Due.is("none", x.undo(), -1);
            Due.is("none again", x.undo(), -1);
            Due.loaded(x, TEXT);
            Due.is("-1 is not counted", x.undo(), 0);
            WindyTours y = changed(9);
            for (int left = 7; left >= 0; left--) {
                Due.is("still", y.undo(), left);
            }
            String before = Shot.of(y);
            Due.is("none of nine", y.undo(), -1);
            Due.yes("nothing changes", Shot.of(y).equals(before));
            Due.is("the network stays", y.edgeCount(), 3);
            y.openTour(0);
            Due.is("a change behind it", y.undo(), 0);
            Due.yes("as before", Shot.of(y).equals(before));
        });
    }

    private static void checksum(String what, long due, ToLongFunction<WindyTours> call) {
        Due.is(what, call.applyAsLong(TourEdges.longTour()), due);
    }

    private static void checksums() {
        Sentence.holds(32, "It starts at 0; each number n in the following order replaces it by 31 * checksum + n, wrapping around on overflow"
                + " of a long:", () -> {
            Due.is("no network", new WindyTours().checksum(), 0);
            Due.is("zeros alone", Due.with("network 2 1;").checksum(), 0);
            checksum("18 numbers, below 0", -8715051470120725483L, WindyTours::checksum);
            checksum("20 numbers, below 0", -342653321880755468L, x -> {
                x.openTour(1);
                return x.checksum();
            });
            checksum("24 numbers, above 0", 6356107850187439474L, x -> {
                x.openTour(1);
                x.openTour(1);
                x.openTour(1);
                return x.checksum();
            });
        });
        Sentence.holds(32, "totalCost(), unserved(); for each tour the node of its depot, the number of its arcs, and its arcs in their"
                + " order.", () -> {
            WindyTours x = Due.with("network 2 9;edge 0 1 3 4 1;edge 0 1 5 6 1;edge 0 1 7 8 1;edge 0 1 9 9 0;depot 1;depot 0;");
            Due.is("no tours", x.checksum(), 3);
            x.openTour(0);
            Due.is("a tour without arcs", x.checksum(), (3 * 31 + 1) * 31);
            x.insert(0, 0, 3);
            Due.is("one arc", x.checksum(), (((9 * 31 + 2) * 31 + 1) * 31 + 1) * 31 + 3);
            x.insert(0, 1, 4);
            Due.is("two arcs", x.checksum(), ((((13L * 31 + 1) * 31 + 1) * 31 + 2) * 31 + 3) * 31 + 4);
            x.openTour(1);
            Due.is("two tours", x.checksum(), ((((((13L * 31 + 1) * 31 + 1) * 31 + 2) * 31 + 3) * 31 + 4) * 31 + 0) * 31 + 0);
        });
    }

    private static void manyCalls() {
        said("An object is used for at most 512 calls after it has been made; what later calls answer is free.", () -> {
            WindyTours x = new WindyTours();
            x.append(0x6e657477, 0x6f726b20, 0x3220393b, 0x65646765, 0x20302031);
            x.append(0x20352037, 0x20343b64, 0x65706f74, 0x20303b20, 0x20202020);
            Due.is("load, the third call", x.load(36), 1);
            Due.is("openTour, the fourth call", x.openTour(0), 0);
            for (int call = 5; call <= 504; call += 2) {
                Due.is("call " + call, x.insert(0, 0, call % 4 / 2), 12);
                Due.is("call " + (call + 1), x.drop(0), 0);
            }
            for (int call = 505; call <= 512; call++) {
                Due.is("call " + call, x.undo(), 512 - call);
            }
            WindyTours y = new WindyTours();
            Due.appended(y, TEXT);
            y.load(TEXT.length());
            y.openTour(0);
            for (int call = TEXT.length() / 20 + 4; call <= 511; call++) {
                Due.is("build", y.build(), call == TEXT.length() / 20 + 4 ? 2 : 0);
            }
            Due.is("checksum, the last call", y.checksum(), ((((2L * 31) * 31 + 0) * 31 + 2) * 31 + 0) * 31 + 3);
            WindyTours z = new WindyTours();
            for (int call = 1; call <= 512; call++) {
                Due.is("load of nothing", z.load(0), WindyTours.SYNTAX_ERROR);
            }
        });
    }
}
