import java.util.function.LongSupplier;

/** All promises: the program and the naive program get the same calls, and each answer must be the same. */
public final class ModelTest {
    private static final int PLAYS = 400;
    private static final int STEPS = 60;

    private final SetupMaker maker;
    private final String name;
    private final WindyTours x = new WindyTours();
    private final NaiveTours y = new NaiveTours();

    private ModelTest(int seed) {
        maker = new SetupMaker(seed);
        name = "play " + seed + ": ";
    }

    public static void main(String[] args) {
        for (int seed = 1; seed <= PLAYS && Due.isClean(); seed++) {
            new ModelTest(seed).play();
        }
        for (int seed = 1; seed <= 60 && Due.isClean(); seed++) {
            new ModelTest(100_000 + seed).readDamagedTexts();
        }
        Due.end();
    }

    private static String outcome(LongSupplier call) {
        try {
            return "" + call.getAsLong();
        } catch (RuntimeException e) {
            return e.getClass().getSimpleName();
        }
    }

    private void same(String call, LongSupplier got, LongSupplier due) {
        String answer = outcome(got);
        String wanted = outcome(due);
        if (!answer.equals(wanted)) {
            Due.fail(name + call + " answered " + answer + ", due is " + wanted);
        }
    }

    private void appendBoth(String text) {
        Due.appended(x, text);
        for (int from = 0; from < text.length(); from += 20) {
            int[] words = new int[5];
            for (int i = 0; i < 20; i++) {
                words[i / 4] = words[i / 4] << 8 | (from + i < text.length() ? text.charAt(from + i) & 255 : '#');
            }
            y.append(words);
        }
    }

    private void loadBoth(String text) {
        appendBoth(text);
        same("load of " + text, () -> x.load(text.length()), () -> y.load(text.length()));
        same("errorOffset of " + text, x::errorOffset, y::errorOffset);
    }

    private void readDamagedTexts() {
        for (int i = 0; i < 150; i++) {
            loadBoth(maker.damaged(maker.setup()));
        }
        compareNetworks();
    }

    private void play() {
        loadBoth(maker.setup());
        compareNetworks();
        openTours();
        for (int i = 0; i < STEPS && Due.isClean(); i++) {
            change(maker.below(24));
            compareTours();
        }
        for (int i = 0; i < 9; i++) {
            same("undo", x::undo, y::undo);
            compareTours();
        }
        compareNetworks();
    }

    private void openTours() {
        for (int i = maker.between(0, 3); i > 0; i--) {
            change(0);
        }
    }

    /** An index that is mostly one of those below the count, sometimes the bound, and seldom far off. */
    private int index(int count) {
        if (maker.oneIn(40)) {
            return maker.oneIn(2) ? Integer.MIN_VALUE : Integer.MAX_VALUE;
        }
        return maker.oneIn(20) ? -1 : maker.below(count + (maker.oneIn(10) || count == 0 ? 2 : 0));
    }

    private void change(int kind) {
        int edges = y.edgeCount();
        int edge = index(edges);
        int tour = index(y.tourCount());
        switch (kind) {
            case 0: case 1:
                int depot = index(y.depotCount());
                same("openTour " + depot, () -> x.openTour(depot), () -> y.openTour(depot));
                break;
            case 2: case 3: case 4: case 5: case 6: case 7: case 8: case 9:
                int size = tour >= 0 && tour < y.tourCount() ? y.length(tour) : 0;
                int position = index(size + 1);
                int arc = index(2 * edges);
                same("insert " + tour + " " + position + " " + arc,
                        () -> x.insert(tour, position, arc), () -> y.insert(tour, position, arc));
                break;
            case 10: case 11: case 12:
                same("drop " + edge, () -> x.drop(edge), () -> y.drop(edge));
                break;
            case 13: case 14: case 15:
                same("flip " + edge, () -> x.flip(edge), () -> y.flip(edge));
                break;
            case 16: case 17:
                same("build", x::build, y::build);
                break;
            case 18: case 19:
                int most = maker.oneIn(2) ? 1 : maker.between(-1, 12);
                same("improve " + most, () -> x.improve(most), () -> y.improve(most));
                break;
            case 20:
                loadOther();
                break;
            default:
                same("undo", x::undo, y::undo);
                if (maker.oneIn(4)) {
                    compareNetworks();
                }
                break;
        }
    }

    private void loadOther() {
        if (maker.oneIn(3)) {
            loadBoth(maker.oneIn(2) ? maker.damaged(maker.setup()) : maker.setup());
            compareNetworks();
            openTours();
            return;
        }
        appendBoth(maker.oneIn(3) ? "network 3 9; edge 0 1 2 3 4; depot 2;" : "network 2 ; edge 0 1 2 3 4;");
        int length = maker.between(-1, 65);
        same("load " + length, () -> x.load(length), () -> y.load(length));
        same("errorOffset", x::errorOffset, y::errorOffset);
    }

    private void compareNetworks() {
        same("nodeCount", x::nodeCount, y::nodeCount);
        same("edgeCount", x::edgeCount, y::edgeCount);
        same("depotCount", x::depotCount, y::depotCount);
        same("oddNodes", x::oddNodes, y::oddNodes);
        same("matching", x::matching, y::matching);
        for (int edge = -1; edge <= y.edgeCount(); edge++) {
            for (int what = -1; what <= 5; what++) {
                int e = edge;
                int w = what;
                same("edge " + e + " " + w, () -> x.edge(e, w), () -> y.edge(e, w));
            }
        }
        for (int from = -1; from <= y.nodeCount(); from++) {
            for (int to = -1; to <= y.nodeCount(); to++) {
                int f = from;
                int t = to;
                same("distance " + f + " " + t, () -> x.distance(f, t), () -> y.distance(f, t));
            }
        }
        for (int arc = -1; arc <= 2 * y.edgeCount(); arc++) {
            int a = arc;
            same("serviceCost " + a, () -> x.serviceCost(a), () -> y.serviceCost(a));
            for (int other = -1; other <= 2 * y.edgeCount(); other++) {
                int b = other;
                same("mayFollow " + a + " " + b, () -> x.mayFollow(a, b) ? 1 : 0, () -> y.mayFollow(a, b) ? 1 : 0);
                same("deadhead " + a + " " + b, () -> x.deadhead(a, b), () -> y.deadhead(a, b));
            }
        }
    }

    private void compareTours() {
        same("checksum", x::checksum, y::checksum);
        same("tourCount", x::tourCount, y::tourCount);
        same("totalCost", x::totalCost, y::totalCost);
        same("unserved", x::unserved, y::unserved);
        for (int tour = -1; tour <= y.tourCount(); tour++) {
            int t = tour;
            same("depotOf " + t, () -> x.depotOf(t), () -> y.depotOf(t));
            same("length " + t, () -> x.length(t), () -> y.length(t));
            same("loadOf " + t, () -> x.loadOf(t), () -> y.loadOf(t));
            same("tourCost " + t, () -> x.tourCost(t), () -> y.tourCost(t));
            for (int position = -1; position <= 15; position++) {
                int p = position;
                same("arcAt " + t + " " + p, () -> x.arcAt(t, p), () -> y.arcAt(t, p));
            }
        }
        for (int edge = -1; edge <= y.edgeCount(); edge++) {
            int e = edge;
            same("tourOf " + e, () -> x.tourOf(e), () -> y.tourOf(e));
            same("bestInsertion " + e, () -> x.bestInsertion(e), () -> y.bestInsertion(e));
        }
    }
}
