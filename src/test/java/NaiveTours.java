import java.util.ArrayDeque;
import java.util.ArrayList;
import java.util.Arrays;
import java.util.Collections;
import java.util.Deque;
import java.util.HashSet;
import java.util.List;
import java.util.NoSuchElementException;
import java.util.Set;

/**
 * The document once more, as literally and as differently from the program as can be: every answer is found anew
 * from the definitions, every trial is made on a copy, and undo keeps whole copies. For comparing alone.
 */
final class NaiveTours {
    private static final int NO = -1;

    /** A network; it is never changed once it has been read. */
    private static final class Net {
        int nodes;
        int capacity;
        final List<int[]> edges = new ArrayList<>();
        final Set<List<Integer>> bans = new HashSet<>();
        final List<Integer> depots = new ArrayList<>();
        List<String> service = null;
        int[][] deadheads;
    }

    private static final class Tour {
        final int home;
        final List<Integer> arcs = new ArrayList<>();

        Tour(int home) {
            this.home = home;
        }

        Tour copy() {
            Tour other = new Tour(home);
            other.arcs.addAll(arcs);
            return other;
        }
    }

    private record State(Net net, List<Tour> tours) {
        State copy() {
            List<Tour> others = new ArrayList<>();
            for (Tour tour : tours) {
                others.add(tour.copy());
            }
            return new State(net, others);
        }
    }

    private record Error(int offset, int rank, int code) implements Comparable<Error> {
        @Override
        public int compareTo(Error other) {
            return offset != other.offset ? Integer.compare(offset, other.offset) : Integer.compare(rank, other.rank);
        }
    }

    private record Token(int offset, String text) {
        boolean isNumber() {
            return !text.isEmpty() && Character.isDigit(text.charAt(0));
        }
    }

    private final StringBuilder buffer = new StringBuilder();
    private int errorOffset = -1;
    private State now = new State(new Net(), new ArrayList<>());
    private final Deque<State> past = new ArrayDeque<>();

    // ---- the setup text

    int append(int... words) {
        if (buffer.length() + 20 > 700) {
            return -1;
        }
        for (int word : words) {
            for (int i = 3; i >= 0; i--) {
                buffer.append((char) ((word >> 8 * i) & 0xff));
            }
        }
        return buffer.length();
    }

    int load(int length) {
        if (length < 0 || length > buffer.length()) {
            throw new IllegalArgumentException();
        }
        String text = buffer.substring(0, length);
        buffer.setLength(0);
        Reading reading = new Reading(text);
        reading.setup();
        if (!reading.errors.isEmpty()) {
            Error first = Collections.min(reading.errors);
            errorOffset = first.offset;
            return first.code;
        }
        errorOffset = -1;
        remember();
        now = new State(reading.net, new ArrayList<>());
        reading.net.deadheads = deadheadsOf(reading.net);
        return reading.net.edges.size();
    }

    /** Ends the reading at the first token that the grammar does not allow; all errors before it are kept. */
    private static final class Stop extends RuntimeException {
        private static final long serialVersionUID = 1;
    }

    private static final class Reading {
        final Net net = new Net();
        final List<Error> errors = new ArrayList<>();
        private final List<Token> tokens = new ArrayList<>();
        private int at = 0;

        Reading(String text) {
            int i = 0;
            while (i < text.length()) {
                int from = i;
                String kind = text.charAt(i) >= '0' && text.charAt(i) <= '9' ? "[0-9]"
                        : text.charAt(i) >= 'a' && text.charAt(i) <= 'z' ? "[a-z]" : null;
                i++;
                while (kind != null && i < text.length() && text.substring(i, i + 1).matches(kind)) {
                    i++;
                }
                if (text.charAt(from) != ' ') {
                    tokens.add(new Token(from, text.substring(from, i)));
                }
            }
            tokens.add(new Token(text.length(), ""));
        }

        private Token here() {
            return tokens.get(at);
        }

        private void error(Token token, int rank, int code) {
            errors.add(new Error(token.offset, rank, code));
        }

        private Stop syntax() {
            error(here(), 0, -2);
            return new Stop();
        }

        private void need(String text) {
            if (!here().text.equals(text)) {
                throw syntax();
            }
            at++;
        }

        private int number(int low, int high) {
            Token token = here();
            if (!token.isNumber()) {
                throw syntax();
            }
            at++;
            String digits = token.text.replaceFirst("^0+(?=.)", "");
            int value = digits.length() > 6 ? 9_999_999 : Integer.parseInt(digits);
            if (value < low || value > high) {
                error(token, 1, -3);
            }
            return value;
        }

        void setup() {
            try {
                need("network");
                net.nodes = number(2, 8);
                net.capacity = number(1, 999);
                need(";");
                while (!here().text.isEmpty()) {
                    statement();
                    need(";");
                }
            } catch (Stop stop) {
                at = tokens.size() - 1;
            }
        }

        private void statement() {
            Token first = here();
            switch (first.text) {
                case "edge" -> {
                    if (net.edges.size() >= 14) {
                        error(first, 2, -4);
                    }
                    at++;
                    int a = number(0, net.nodes - 1);
                    Token second = here();
                    int b = number(0, net.nodes - 1);
                    if (a == b) {
                        error(second, 1, -3);
                    }
                    net.edges.add(new int[] {a, b, number(1, 99), number(1, 99), number(0, 99)});
                }
                case "ban" -> {
                    at++;
                    int node = number(0, net.nodes - 1);
                    net.bans.add(List.of(node, edgeAt(node), edgeAt(node)));
                }
                case "depot" -> {
                    if (net.depots.size() >= 3) {
                        error(first, 2, -4);
                    }
                    at++;
                    net.depots.add(number(0, net.nodes - 1));
                }
                case "service" -> {
                    if (net.service != null) {
                        throw syntax();
                    }
                    at++;
                    int from = at;
                    sum(0);
                    net.service = new ArrayList<>();
                    for (int i = from; i < at; i++) {
                        net.service.add(tokens.get(i).text);
                    }
                }
                default -> throw syntax();
            }
        }

        private int edgeAt(int node) {
            Token token = here();
            int edge = number(0, net.edges.size() - 1);
            if (edge < net.edges.size() && net.edges.get(edge)[0] != node && net.edges.get(edge)[1] != node) {
                error(token, 1, -3);
            }
            return edge;
        }

        private void sum(int depth) {
            do {
                do {
                    factor(depth);
                } while (passed("*") || passed("/"));
            } while (passed("+") || passed("-"));
        }

        private boolean passed(String sign) {
            boolean is = here().text.equals(sign);
            at += is ? 1 : 0;
            return is;
        }

        private void factor(int depth) {
            Token token = here();
            if (token.isNumber()) {
                number(0, 9999);
            } else if (token.text.equals("cost") || token.text.equals("demand")) {
                at++;
            } else if (token.text.equals("(")) {
                if (depth == 4) {
                    error(token, 3, -5);
                }
                at++;
                sum(depth + 1);
                need(")");
            } else {
                throw syntax();
            }
        }
    }

    // ---- the network

    private static int limit(long n, int low, int high) {
        return n < low ? low : n > high ? high : (int) n;
    }

    /** Takes an expression apart at its last operator outside parentheses: what stands left of it is made first. */
    private static long value(List<String> sum, int cost, int demand) {
        for (String signs : new String[] {"+-", "*/"}) {
            int depth = 0;
            for (int i = sum.size() - 1; i >= 0; i--) {
                String sign = sum.get(i);
                depth += sign.equals(")") ? 1 : sign.equals("(") ? -1 : 0;
                if (depth == 0 && signs.contains(sign)) {
                    long left = value(sum.subList(0, i), cost, demand);
                    long right = value(sum.subList(i + 1, sum.size()), cost, demand);
                    long result = switch (sign) {
                        case "+" -> left + right;
                        case "-" -> left - right;
                        case "*" -> left * right;
                        default -> right == 0 ? 0 : left / right;
                    };
                    return limit(result, -1000000, 1000000);
                }
            }
        }
        return switch (sum.get(0)) {
            case "(" -> value(sum.subList(1, sum.size() - 1), cost, demand);
            case "cost" -> cost;
            case "demand" -> demand;
            default -> Integer.parseInt(sum.get(0));
        };
    }

    private static int start(Net net, int arc) {
        return net.edges.get(arc / 2)[arc % 2];
    }

    private static int end(Net net, int arc) {
        return net.edges.get(arc / 2)[1 - arc % 2];
    }

    private static int cost(Net net, int arc) {
        return net.edges.get(arc / 2)[2 + arc % 2];
    }

    private static boolean follows(Net net, int x, int y) {
        return end(net, x) == start(net, y) && !net.bans.contains(List.of(end(net, x), x / 2, y / 2));
    }

    private static int[][] deadheadsOf(Net net) {
        int arcs = 2 * net.edges.size();
        int[][] found = new int[arcs][arcs];
        for (int x = 0; x < arcs; x++) {
            int[] best = leastBehind(net, x);
            for (int y = 0; y < arcs; y++) {
                found[x][y] = follows(net, x, y) ? 0 : NO;
                for (int z = 0; z < arcs && found[x][y] != 0; z++) {
                    if (best[z] != NO && follows(net, z, y)) {
                        found[x][y] = least(found[x][y], best[z]);
                    }
                }
            }
        }
        return found;
    }

    /** For each arc z the least cost of the arcs behind x, with z, on ways from x to z; tried until nothing changes. */
    private static int[] leastBehind(Net net, int x) {
        int arcs = 2 * net.edges.size();
        int[] best = new int[arcs];
        Arrays.fill(best, NO);
        boolean changed = true;
        while (changed) {
            changed = false;
            for (int z = 0; z < arcs; z++) {
                int found = follows(net, x, z) ? cost(net, z) : NO;
                for (int w = 0; w < arcs; w++) {
                    if (best[w] != NO && follows(net, w, z)) {
                        found = least(found, best[w] + cost(net, z));
                    }
                }
                if (found != best[z]) {
                    best[z] = found;
                    changed = true;
                }
            }
        }
        return best;
    }

    private static int least(int one, int other) {
        return one == NO ? other : other == NO ? one : Math.min(one, other);
    }

    private int arcCount() {
        return 2 * now.net.edges.size();
    }

    private int approach(int node, int arc) {
        if (start(now.net, arc) == node) {
            return 0;
        }
        int best = NO;
        for (int z = 0; z < arcCount(); z++) {
            if (start(now.net, z) == node && now.net.deadheads[z][arc] != NO) {
                best = least(best, cost(now.net, z) + now.net.deadheads[z][arc]);
            }
        }
        return best;
    }

    private int comingBack(int arc, int node) {
        if (end(now.net, arc) == node) {
            return 0;
        }
        int best = NO;
        for (int z = 0; z < arcCount(); z++) {
            if (end(now.net, z) == node && now.net.deadheads[arc][z] != NO) {
                best = least(best, cost(now.net, z) + now.net.deadheads[arc][z]);
            }
        }
        return best;
    }

    int nodeCount() {
        return now.net.nodes;
    }

    int edgeCount() {
        return now.net.edges.size();
    }

    int depotCount() {
        return now.net.depots.size();
    }

    int tourCount() {
        return now.tours.size();
    }

    int edge(int edge, int what) {
        needIndex(edge, edgeCount());
        if (what < 0 || what > 4) {
            throw new IllegalArgumentException();
        }
        return now.net.edges.get(edge)[what];
    }

    boolean mayFollow(int x, int y) {
        needIndex(x, arcCount());
        needIndex(y, arcCount());
        return follows(now.net, x, y);
    }

    int deadhead(int x, int y) {
        needIndex(x, arcCount());
        needIndex(y, arcCount());
        return now.net.deadheads[x][y];
    }

    /** Ways from a node are followed arc by arc, the node being an imagined arc that leads to it. */
    int distance(int from, int to) {
        needIndex(from, nodeCount());
        needIndex(to, nodeCount());
        if (from == to) {
            return 0;
        }
        int best = NO;
        for (int first = 0; first < arcCount(); first++) {
            if (start(now.net, first) != from) {
                continue;
            }
            if (end(now.net, first) == to) {
                best = least(best, cost(now.net, first));
            }
            for (int last = 0; last < arcCount(); last++) {
                if (end(now.net, last) == to && now.net.deadheads[first][last] != NO) {
                    best = least(best, cost(now.net, first) + now.net.deadheads[first][last] + cost(now.net, last));
                }
            }
        }
        return best;
    }

    int serviceCost(int arc) {
        needIndex(arc, arcCount());
        int cost = cost(now.net, arc);
        if (now.net.service == null) {
            return cost;
        }
        return limit(value(now.net.service, cost, now.net.edges.get(arc / 2)[4]), 0, 9999);
    }

    int oddNodes() {
        int set = 0;
        for (int node = 0; node < nodeCount(); node++) {
            int ends = 0;
            for (int[] edge : now.net.edges) {
                ends += edge[4] > 0 && (edge[0] == node || edge[1] == node) ? 1 : 0;
            }
            set += ends % 2 << node;
        }
        return set;
    }

    /** Tries every pair of each node, not only of the first one. */
    int matching() {
        int[] best = new int[256];
        Arrays.fill(best, NO);
        best[0] = 0;
        for (int set = 1; set < 256; set++) {
            for (int u = 0; u < 8; u++) {
                for (int v = 0; v < 8; v++) {
                    int pair = 1 << u | 1 << v;
                    if (u != v && (set & pair) == pair && u < nodeCount() && v < nodeCount() && best[set - pair] != NO) {
                        int cost = least(distance(u, v), distance(v, u));
                        best[set] = cost == NO ? best[set] : least(best[set], best[set - pair] + cost);
                    }
                }
            }
        }
        return best[oddNodes()];
    }

    // ---- tours

    private static void needIndex(int index, int count) {
        if (index < 0 || index >= count) {
            throw new IndexOutOfBoundsException();
        }
    }

    private int demand(int arc) {
        return now.net.edges.get(arc / 2)[4];
    }

    private int cost(Tour tour) {
        if (tour.arcs.isEmpty()) {
            return 0;
        }
        List<Integer> parts = new ArrayList<>();
        parts.add(approach(tour.home, tour.arcs.get(0)));
        parts.add(comingBack(tour.arcs.get(tour.arcs.size() - 1), tour.home));
        for (int i = 0; i < tour.arcs.size(); i++) {
            parts.add(serviceCost(tour.arcs.get(i)));
            if (i > 0) {
                parts.add(now.net.deadheads[tour.arcs.get(i - 1)][tour.arcs.get(i)]);
            }
        }
        int sum = 0;
        for (int part : parts) {
            if (part == NO) {
                return NO;
            }
            sum += part;
        }
        return sum;
    }

    private int loadIn(Tour tour) {
        int sum = 0;
        for (int arc : tour.arcs) {
            sum += demand(arc);
        }
        return sum;
    }

    private Tour tour(int tour) {
        needIndex(tour, tourCount());
        return now.tours.get(tour);
    }

    int depotOf(int tour) {
        return tour(tour).home;
    }

    int length(int tour) {
        return tour(tour).arcs.size();
    }

    int arcAt(int tour, int position) {
        List<Integer> arcs = tour(tour).arcs;
        if (position < 0 || position >= arcs.size()) {
            throw new NoSuchElementException();
        }
        return arcs.get(position);
    }

    int loadOf(int tour) {
        return loadIn(tour(tour));
    }

    int tourCost(int tour) {
        return cost(tour(tour));
    }

    int totalCost() {
        int sum = 0;
        for (Tour tour : now.tours) {
            sum += cost(tour);
        }
        return sum;
    }

    int unserved() {
        int count = 0;
        for (int edge = 0; edge < edgeCount(); edge++) {
            count += waits(edge) ? 1 : 0;
        }
        return count;
    }

    int tourOf(int edge) {
        needIndex(edge, edgeCount());
        for (int tour = 0; tour < tourCount(); tour++) {
            if (now.tours.get(tour).arcs.contains(2 * edge) || now.tours.get(tour).arcs.contains(2 * edge + 1)) {
                return tour;
            }
        }
        return -1;
    }

    private boolean waits(int edge) {
        return tourOf(edge) == -1 && now.net.edges.get(edge)[4] > 0;
    }

    /** The tour with the insertion made, or null. */
    private Tour inserted(int tour, int position, int arc) {
        Tour then = now.tours.get(tour).copy();
        then.arcs.add(position, arc);
        return loadIn(then) <= now.net.capacity && cost(then) != NO ? then : null;
    }

    int bestInsertion(int edge) {
        needIndex(edge, edgeCount());
        if (!waits(edge)) {
            throw new IllegalStateException();
        }
        int best = -1;
        int leastIncrease = 0;
        for (int tour = tourCount() - 1; tour >= 0; tour--) {
            for (int position = length(tour); position >= 0; position--) {
                for (int side = 1; side >= 0; side--) {
                    Tour then = inserted(tour, position, 2 * edge + side);
                    if (then != null && (best == -1 || cost(then) - tourCost(tour) <= leastIncrease)) {
                        best = 1000 * tour + 10 * position + side;
                        leastIncrease = cost(then) - tourCost(tour);
                    }
                }
            }
        }
        return best;
    }

    private void remember() {
        past.push(now.copy());
        if (past.size() > 8) {
            past.removeLast();
        }
    }

    int openTour(int depot) {
        needIndex(depot, depotCount());
        if (tourCount() == 4) {
            throw new IllegalStateException();
        }
        remember();
        now.tours.add(new Tour(now.net.depots.get(depot)));
        return tourCount() - 1;
    }

    int insert(int tour, int position, int arc) {
        needIndex(tour, tourCount());
        needIndex(position, length(tour) + 1);
        needIndex(arc, arcCount());
        Tour then = waits(arc / 2) ? inserted(tour, position, arc) : null;
        if (then == null) {
            throw new IllegalStateException();
        }
        remember();
        now.tours.set(tour, then);
        return cost(then);
    }

    /** The tour that serves the edge, without it or with its other arc; null if it is not served or not drivable. */
    private Tour altered(int edge, boolean turned) {
        int tour = tourOf(edge);
        if (tour == -1) {
            return null;
        }
        Tour then = now.tours.get(tour).copy();
        int position = Math.max(then.arcs.indexOf(2 * edge), then.arcs.indexOf(2 * edge + 1));
        int arc = then.arcs.remove(position);
        if (turned) {
            then.arcs.add(position, arc % 2 == 0 ? arc + 1 : arc - 1);
        }
        return cost(then) == NO ? null : then;
    }

    private int alter(int edge, boolean turned) {
        needIndex(edge, edgeCount());
        Tour then = altered(edge, turned);
        if (then == null) {
            throw new IllegalStateException();
        }
        remember();
        now.tours.set(tourOf(edge), then);
        return cost(then);
    }

    int drop(int edge) {
        return alter(edge, false);
    }

    int flip(int edge) {
        return alter(edge, true);
    }

    private boolean makeBest(int edge) {
        int place = bestInsertion(edge);
        if (place == -1) {
            return false;
        }
        now.tours.set(place / 1000, inserted(place / 1000, place % 1000 / 10, 2 * edge + place % 10));
        return true;
    }

    int build() {
        remember();
        int made = 0;
        for (int edge = 0; edge < edgeCount(); edge++) {
            made += waits(edge) && makeBest(edge) ? 1 : 0;
        }
        return made;
    }

    int improve(int most) {
        if (most < 1 || most > 10) {
            throw new IllegalArgumentException();
        }
        remember();
        int atFirst = totalCost();
        for (int time = 0; time < most; time++) {
            State best = now;
            for (int edge = 0; edge < edgeCount(); edge++) {
                State then = bestChange(edge);
                if (then != null && totalCost(then) < totalCost(best)) {
                    best = then;
                }
            }
            now = best;
        }
        return atFirst - totalCost();
    }

    private int totalCost(State state) {
        State kept = now;
        now = state;
        int cost = totalCost();
        now = kept;
        return cost;
    }

    private State bestChange(int edge) {
        Tour without = altered(edge, false);
        if (without == null) {
            return null;
        }
        State kept = now;
        now = kept.copy();
        now.tours.set(tourOf(edge), without);
        boolean made = makeBest(edge);
        State then = now;
        now = kept;
        return made ? then : null;
    }

    int undo() {
        if (past.isEmpty()) {
            return -1;
        }
        now = past.pop();
        return past.size();
    }

    int errorOffset() {
        return errorOffset;
    }

    long checksum() {
        List<Integer> numbers = new ArrayList<>(List.of(totalCost(), unserved()));
        for (Tour tour : now.tours) {
            numbers.add(tour.home);
            numbers.add(tour.arcs.size());
            numbers.addAll(tour.arcs);
        }
        long sum = 0;
        for (int number : numbers) {
            sum = 31 * sum + number;
        }
        return sum;
    }
}
