import java.util.function.LongSupplier;

/**
 * All promises: the program and the naive program get the same calls, and each answer must be the same.
 * An object gets no more calls than the document promises answers for, so that each play asks some questions only.
 */
public final class ModelTest {
    private static final int PLAYS = 1500;
    private static final int READINGS = 700;
    private static final int MOST_CALLS = 512;

    private final SetupMaker maker;
    private final String name;
    private final WindyTours x = new WindyTours();
    private final NaiveTours y = new NaiveTours();
    private int calls = 0;

    private ModelTest(int seed) {
        maker = new SetupMaker(seed);
        name = "play " + seed + ": ";
    }

    public static void main(String[] args) {
        for (int seed = 1; seed <= PLAYS && Due.isClean(); seed++) {
            new ModelTest(seed).play();
        }
        for (int seed = 1; seed <= READINGS && Due.isClean(); seed++) {
            new ModelTest(100_000 + seed).readDamagedTexts();
        }
        Due.end();
    }

    private static String outcome(LongSupplier call) {
        try {
            return "" + call.getAsLong();
        } catch (RuntimeException e) {
            return e.getClass().getSimpleName();
        }
    }

    private boolean hasCalls(int count) {
        return calls + count <= MOST_CALLS && Due.isClean();
    }

    private void same(String call, LongSupplier got, LongSupplier due) {
        if (!hasCalls(1)) {
            return;
        }
        calls++;
        String answer = outcome(got);
        String wanted = outcome(due);
        if (!answer.equals(wanted)) {
            Due.fail(name + call + " answered " + answer + ", due is " + wanted);
        }
    }

    private void appendBoth(String text) {
        calls += (text.length() + 19) / 20;
        Due.appended(x, text);
        for (int from = 0; from < text.length(); from += 20) {
            int[] words = new int[5];
            for (int i = 0; i < 20; i++) {
                words[i / 4] = words[i / 4] << 8 | (from + i < text.length() ? text.charAt(from + i) & 255 : '#');
            }
            y.append(words);
        }
    }

    private void loadBoth(String text) {
        appendBoth(text);
        same("load of " + text, () -> x.load(text.length()), () -> y.load(text.length()));
        same("errorOffset of " + text, x::errorOffset, y::errorOffset);
    }

    private void readDamagedTexts() {
        while (hasCalls(37)) {
            loadBoth(maker.damaged(maker.setup()));
            askNetwork(1);
        }
    }

    private void play() {
        loadBoth(maker.setup());
        askNetwork(maker.oneIn(3) ? 300 : 20);
        openTours();
        while (hasCalls(60)) {
            change(maker.below(24));
            askTours(maker.between(1, 5));
        }
        while (hasCalls(1)) {
            same("undo", x::undo, y::undo);
            askTours(2);
            askNetwork(1);
        }
    }

    private void openTours() {
        for (int i = maker.between(0, 3); i > 0; i--) {
            change(0);
        }
    }

    /** An index that is mostly one of those below the count, sometimes the bound, and seldom far off. */
    private int index(int count) {
        if (maker.oneIn(40)) {
            return maker.oneIn(2) ? Integer.MIN_VALUE : Integer.MAX_VALUE;
        }
        return maker.oneIn(20) ? -1 : maker.below(count + (maker.oneIn(10) || count == 0 ? 2 : 0));
    }

    private void change(int kind) {
        int edges = y.edgeCount();
        int edge = index(edges);
        int tour = index(y.tourCount());
        switch (kind) {
            case 0: case 1:
                int depot = index(y.depotCount());
                same("openTour " + depot, () -> x.openTour(depot), () -> y.openTour(depot));
                break;
            case 2: case 3: case 4: case 5: case 6: case 7: case 8: case 9:
                int size = tour >= 0 && tour < y.tourCount() ? y.length(tour) : 0;
                int position = index(size + 1);
                int arc = index(2 * edges);
                same("insert " + tour + " " + position + " " + arc,
                        () -> x.insert(tour, position, arc), () -> y.insert(tour, position, arc));
                break;
            case 10: case 11: case 12:
                same("drop " + edge, () -> x.drop(edge), () -> y.drop(edge));
                break;
            case 13: case 14: case 15:
                same("flip " + edge, () -> x.flip(edge), () -> y.flip(edge));
                break;
            case 16: case 17:
                same("build", x::build, y::build);
                break;
            case 18: case 19:
                int most = maker.oneIn(2) ? 1 : maker.between(-1, 12);
                same("improve " + most, () -> x.improve(most), () -> y.improve(most));
                break;
            case 20:
                loadOther();
                break;
            default:
                same("undo", x::undo, y::undo);
                askNetwork(2);
                break;
        }
    }

    private void loadOther() {
        if (maker.oneIn(3)) {
            loadBoth(maker.oneIn(2) ? maker.damaged(maker.setup()) : maker.setup());
            askNetwork(9);
            openTours();
            return;
        }
        appendBoth(maker.oneIn(3) ? "network 3 9; edge 0 1 2 3 4; depot 2;" : "network 2 ; edge 0 1 2 3 4;");
        int length = maker.between(-1, 65);
        same("load " + length, () -> x.load(length), () -> y.load(length));
        same("errorOffset", x::errorOffset, y::errorOffset);
    }

    private void askNetwork(int questions) {
        for (int i = 0; i < questions; i++) {
            int node = index(y.nodeCount());
            int other = index(y.nodeCount());
            int arc = index(2 * y.edgeCount());
            int next = index(2 * y.edgeCount());
            askOfNetwork(maker.below(12), node, other, arc, next);
        }
    }

    private void askOfNetwork(int kind, int node, int other, int arc, int next) {
        switch (kind) {
            case 0:
                same("nodeCount", x::nodeCount, y::nodeCount);
                same("edgeCount", x::edgeCount, y::edgeCount);
                same("depotCount", x::depotCount, y::depotCount);
                break;
            case 1:
                same("oddNodes", x::oddNodes, y::oddNodes);
                same("matching", x::matching, y::matching);
                break;
            case 2:
                int what = maker.between(-1, 5);
                same("edge " + (arc >> 1) + " " + what, () -> x.edge(arc >> 1, what), () -> y.edge(arc >> 1, what));
                break;
            case 3: case 4:
                same("distance " + node + " " + other, () -> x.distance(node, other), () -> y.distance(node, other));
                break;
            case 5: case 6:
                same("serviceCost " + arc, () -> x.serviceCost(arc), () -> y.serviceCost(arc));
                break;
            case 7: case 8:
                same("mayFollow " + arc + " " + next, () -> x.mayFollow(arc, next) ? 1 : 0, () -> y.mayFollow(arc, next) ? 1 : 0);
                break;
            default:
                same("deadhead " + arc + " " + next, () -> x.deadhead(arc, next), () -> y.deadhead(arc, next));
                break;
        }
    }

    private void askTours(int questions) {
        same("checksum", x::checksum, y::checksum);
        for (int i = 0; i < questions; i++) {
            askOfTours(maker.below(10), index(y.tourCount()), index(y.edgeCount()));
        }
    }

    private void askOfTours(int kind, int tour, int edge) {
        switch (kind) {
            case 0:
                same("tourCount", x::tourCount, y::tourCount);
                same("totalCost", x::totalCost, y::totalCost);
                break;
            case 1:
                same("unserved", x::unserved, y::unserved);
                break;
            case 2:
                same("depotOf " + tour, () -> x.depotOf(tour), () -> y.depotOf(tour));
                same("length " + tour, () -> x.length(tour), () -> y.length(tour));
                break;
            case 3:
                same("loadOf " + tour, () -> x.loadOf(tour), () -> y.loadOf(tour));
                break;
            case 4:
                same("tourCost " + tour, () -> x.tourCost(tour), () -> y.tourCost(tour));
                break;
            case 5:
                int position = maker.between(-1, 15);
                same("arcAt " + tour + " " + position, () -> x.arcAt(tour, position), () -> y.arcAt(tour, position));
                break;
            case 6:
                same("tourOf " + edge, () -> x.tourOf(edge), () -> y.tourOf(edge));
                break;
            default:
                same("bestInsertion " + edge, () -> x.bestInsertion(edge), () -> y.bestInsertion(edge));
                break;
        }
    }
}
