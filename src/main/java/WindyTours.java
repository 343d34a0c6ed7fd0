import java.util.NoSuchElementException;

/**
 * Tours that serve the edges of a network with windy costs, banned turns, several depots, and
 * vehicles with a capacity. The document DOC.md says what each method does, as numbered promises.
 */
public final class WindyTours {
    public static final int SYNTAX_ERROR = -2;
    public static final int OUT_OF_RANGE = -3;
    public static final int TOO_MANY = -4;
    public static final int TOO_DEEP = -5;

    private static final int MAX_NODES = 8;
    private static final int MAX_EDGES = 14;
    private static final int MAX_ARCS = 2 * MAX_EDGES;
    private static final int MAX_DEPOTS = 3;
    private static final int MAX_TOURS = 4;
    private static final int MAX_CAPACITY = 999;
    private static final int MAX_COST = 99;
    private static final int MAX_DEMAND = 99;
    private static final int MAX_SERVICE = 9999;
    private static final int MAX_RESULT = 1_000_000;
    private static final int MAX_BYTES = 700;
    private static final int MAX_DEPTH = 4;
    private static final int MAX_UNDO = 8;
    private static final int MAX_ROUNDS = 10;

    /** Stands for a cost that does not exist; fifteen of them still fit an int, and no real cost comes near. */
    private static final int NO_WAY = 100_000_000;
    /** Stands before the first and behind the last arc of a tour. */
    private static final int DEPOT = -1;
    private static final int NONE = -1;

    private final SetupReader reader;
    private final Planner planner;
    private final Network network;
    private final Routes routes;
    private final Plan plan;
    private final History history;

    public WindyTours() {
        reader = new SetupReader();
        planner = new Planner();
        network = planner.network;
        routes = planner.routes;
        plan = planner.plan;
        history = new History();
    }

    public int append(int w0, int w1, int w2, int w3, int w4) {
        if (reader.buffered + 20 > MAX_BYTES) {
            return -1;
        }
        reader.addWord(w0);
        reader.addWord(w1);
        reader.addWord(w2);
        reader.addWord(w3);
        reader.addWord(w4);
        return reader.buffered;
    }

    public int load(int length) throws IllegalArgumentException {
        if (length < 0 || length > reader.buffered) {
            throw new IllegalArgumentException("the buffer has fewer bytes");
        }
        int error = reader.readSetup(length);
        if (error != 0) {
            return error;
        }
        history.remember(network, plan, true);
        network.copyFrom(reader.network);
        routes.explore(network);
        plan.clear();
        return network.edges;
    }

    public int errorOffset() {
        return reader.errorAt;
    }

    public int nodeCount() {
        return network.nodes;
    }

    public int edgeCount() {
        return network.edges;
    }

    public int depotCount() {
        return network.depots;
    }

    public int tourCount() {
        return plan.tours;
    }

    public int edge(int edge, int what) throws IndexOutOfBoundsException, IllegalArgumentException {
        requireEdge(edge);
        switch (what) {
            case 0:
                return at(network.starts, 2 * edge);
            case 1:
                return at(network.starts, 2 * edge + 1);
            case 2:
                return at(network.costs, 2 * edge);
            case 3:
                return at(network.costs, 2 * edge + 1);
            case 4:
                return at(network.demands, edge);
            default:
                throw new IllegalArgumentException("what is not 0 to 4");
        }
    }

    public boolean mayFollow(int x, int y) throws IndexOutOfBoundsException {
        requireArc(x);
        requireArc(y);
        return network.allowsTurn(x, y);
    }

    public int deadhead(int x, int y) throws IndexOutOfBoundsException {
        requireArc(x);
        requireArc(y);
        return orNone(at(routes.deadheads, x * MAX_ARCS + y));
    }

    public int distance(int from, int to) throws IndexOutOfBoundsException {
        requireNode(from);
        requireNode(to);
        return orNone(at(routes.distances, from * MAX_NODES + to));
    }

    public int serviceCost(int arc) throws IndexOutOfBoundsException {
        requireArc(arc);
        return at(network.services, arc);
    }

    public int oddNodes() {
        return network.oddSet();
    }

    public int matching() {
        return orNone(Routes.cheapestPairs(routes.distances, network.oddSet(), 0));
    }

    public int depotOf(int tour) throws IndexOutOfBoundsException {
        requireTour(tour);
        return at(plan.homes, tour);
    }

    public int length(int tour) throws IndexOutOfBoundsException {
        requireTour(tour);
        return at(plan.sizes, tour);
    }

    public int arcAt(int tour, int position) throws IndexOutOfBoundsException, NoSuchElementException {
        requireTour(tour);
        int arc = plan.arcOrDepot(tour, position);
        if (arc == DEPOT) {
            throw new NoSuchElementException("no such position");
        }
        return arc;
    }

    public int loadOf(int tour) throws IndexOutOfBoundsException {
        requireTour(tour);
        return planner.demandIn(tour);
    }

    public int tourCost(int tour) throws IndexOutOfBoundsException {
        requireTour(tour);
        return planner.costOf(tour);
    }

    public int totalCost() {
        int total = 0;
        for (int tour = 0; tour < plan.tours; tour++) {
            total += planner.costOf(tour);
        }
        return total;
    }

    public int unserved() {
        int waiting = 0;
        for (int edge = 0; edge < network.edges; edge++) {
            if (planner.isWaiting(edge)) {
                waiting++;
            }
        }
        return waiting;
    }

    public int tourOf(int edge) throws IndexOutOfBoundsException {
        requireEdge(edge);
        return plan.tourServing(edge);
    }

    public int bestInsertion(int edge) throws IndexOutOfBoundsException, IllegalStateException {
        requireEdge(edge);
        if (!planner.isWaiting(edge)) {
            throw new IllegalStateException("the edge is served or has no demand");
        }
        return planner.bestPlace(edge);
    }

    public int openTour(int depot) throws IndexOutOfBoundsException, IllegalStateException {
        if (depot < 0 || depot >= network.depots) {
            throw new IndexOutOfBoundsException("no such depot");
        }
        if (plan.tours >= MAX_TOURS) {
            throw new IllegalStateException("there are 4 tours");
        }
        history.remember(network, plan, false);
        return plan.addTour(at(network.depotNodes, depot));
    }

    public int insert(int tour, int position, int arc) throws IndexOutOfBoundsException, IllegalStateException {
        requireTour(tour);
        if (position < 0 || position > at(plan.sizes, tour)) {
            throw new IndexOutOfBoundsException("no such position");
        }
        requireArc(arc);
        if (!planner.isWaiting(arc / 2)) {
            throw new IllegalStateException("the edge is served or has no demand");
        }
        if (!planner.hasRoom(tour, arc / 2) || planner.increaseBy(tour, position, arc) >= NO_WAY) {
            throw new IllegalStateException("the insertion is not possible");
        }
        history.remember(network, plan, false);
        plan.putIn(tour, position, arc);
        return planner.costOf(tour);
    }

    public int drop(int edge) throws IndexOutOfBoundsException, IllegalStateException {
        requireEdge(edge);
        int tour = plan.tourServing(edge);
        if (tour == NONE) {
            throw new IllegalStateException("the edge is not served");
        }
        int position = plan.positionIn(tour, edge);
        if (!planner.canSpare(tour, position)) {
            throw new IllegalStateException("the tour would not be drivable");
        }
        history.remember(network, plan, false);
        plan.takeOut(tour, position);
        return planner.costOf(tour);
    }

    public int flip(int edge) throws IndexOutOfBoundsException, IllegalStateException {
        requireEdge(edge);
        int tour = plan.tourServing(edge);
        if (tour == NONE) {
            throw new IllegalStateException("the edge is not served");
        }
        int position = plan.positionIn(tour, edge);
        if (!planner.canTurn(tour, position)) {
            throw new IllegalStateException("the tour would not be drivable");
        }
        history.remember(network, plan, false);
        plan.turnRound(tour, position);
        return planner.costOf(tour);
    }

    public int build() {
        history.remember(network, plan, false);
        int made = 0;
        for (int edge = 0; edge < network.edges; edge++) {
            if (planner.isWaiting(edge) && planner.insertBest(edge)) {
                made++;
            }
        }
        return made;
    }

    public int improve(int most) throws IllegalArgumentException {
        if (most < 1 || most > MAX_ROUNDS) {
            throw new IllegalArgumentException("most is not 1 to 10");
        }
        history.remember(network, plan, false);
        int sum = 0;
        int gain = 1;
        for (int round = 0; round < most && gain > 0; round++) {
            gain = planner.makeBestChange();
            sum += gain;
        }
        return sum;
    }

    public int undo() {
        if (history.kept == 0) {
            return -1;
        }
        // Only an undone load brings another network, and only then the routes must be found anew.
        if (history.restore(network, plan)) {
            routes.explore(network);
        }
        return history.kept;
    }

    public long checksum() {
        long sum = totalCost();
        sum = 31 * sum + unserved();
        for (int tour = 0; tour < plan.tours; tour++) {
            int size = at(plan.sizes, tour);
            sum = 31 * sum + at(plan.homes, tour);
            sum = 31 * sum + size;
            for (int position = 0; position < size; position++) {
                sum = 31 * sum + plan.arcOrDepot(tour, position);
            }
        }
        return sum;
    }

    private void requireNode(int node) {
        if (node < 0 || node >= network.nodes) {
            throw new IndexOutOfBoundsException("no such node");
        }
    }

    private void requireEdge(int edge) {
        if (edge < 0 || edge >= network.edges) {
            throw new IndexOutOfBoundsException("no such edge");
        }
    }

    private void requireArc(int arc) {
        if (arc < 0 || arc >= 2 * network.edges) {
            throw new IndexOutOfBoundsException("no such arc");
        }
    }

    private void requireTour(int tour) {
        if (tour < 0 || tour >= plan.tours) {
            throw new IndexOutOfBoundsException("no such tour");
        }
    }

    private static int orNone(int cost) {
        return cost >= NO_WAY ? NONE : cost;
    }

    private static int limited(long value, int low, int high) {
        return (int) Math.max(low, Math.min(high, value));
    }

    /** Reads an element; 0 stands for one outside the row, so that no read can throw. */
    private static int at(int[] row, int index) {
        return index >= 0 && index < row.length ? row[index] : 0;
    }

    /** Writes an element; one outside the row is left out, so that no write can throw. */
    private static void put(int[] row, int index, int value) {
        if (index >= 0 && index < row.length) {
            row[index] = value;
        }
    }

    private static void copyRow(int[] from, int[] to) {
        System.arraycopy(from, 0, to, 0, Math.min(from.length, to.length));
    }

    /** What a setup text declares. */
    private static final class Network {
        private int nodes;
        private int capacity;
        private int edges;
        private int depots;
        /** The node at which each arc begins; an arc ends where the other arc of its edge begins. */
        private final int[] starts = new int[MAX_ARCS];
        private final int[] costs = new int[MAX_ARCS];
        private final int[] services = new int[MAX_ARCS];
        /** For each arc, bit k tells that edge k is banned at the node to which the arc leads. */
        private final int[] bans = new int[MAX_ARCS];
        private final int[] demands = new int[MAX_EDGES];
        private final int[] depotNodes = new int[MAX_DEPOTS];

        void clear() {
            nodes = 0;
            capacity = 0;
            edges = 0;
            depots = 0;
        }

        void copyFrom(Network other) {
            nodes = other.nodes;
            capacity = other.capacity;
            edges = other.edges;
            depots = other.depots;
            copyRow(other.starts, starts);
            copyRow(other.costs, costs);
            copyRow(other.services, services);
            copyRow(other.bans, bans);
            copyRow(other.demands, demands);
            copyRow(other.depotNodes, depotNodes);
        }

        void addEdge(int a, int b, int forth, int back, int demand) {
            if (edges >= MAX_EDGES) {
                return;
            }
            putArc(2 * edges, a, forth);
            putArc(2 * edges + 1, b, back);
            put(demands, edges, demand);
            edges++;
        }

        private void putArc(int arc, int start, int cost) {
            put(starts, arc, start);
            put(costs, arc, cost);
            put(services, arc, cost);
            put(bans, arc, 0);
        }

        void addDepot(int node) {
            if (depots >= MAX_DEPOTS) {
                return;
            }
            put(depotNodes, depots, node);
            depots++;
        }

        void banTurn(int node, int from, int to) {
            int arc = end(2 * from) == node ? 2 * from : 2 * from + 1;
            put(bans, arc, at(bans, arc) | (1 << to));
        }

        int start(int arc) {
            return at(starts, arc);
        }

        int end(int arc) {
            return at(starts, arc ^ 1);
        }

        boolean touches(int edge, int node) {
            return start(2 * edge) == node || end(2 * edge) == node;
        }

        boolean allowsTurn(int x, int y) {
            return end(x) == start(y) && (at(bans, x) >> (y / 2) & 1) == 0;
        }

        int oddSet() {
            int odd = 0;
            for (int edge = 0; edge < edges; edge++) {
                if (at(demands, edge) > 0) {
                    odd ^= 1 << start(2 * edge);
                    odd ^= 1 << end(2 * edge);
                }
            }
            return odd;
        }
    }

    /** The cheapest ways of a network; NO_WAY stands where there is none. */
    private static final class Routes {
        private final int[] deadheads = new int[MAX_ARCS * MAX_ARCS];
        private final int[] approaches = new int[MAX_NODES * MAX_ARCS];
        private final int[] returns = new int[MAX_ARCS * MAX_NODES];
        private final int[] distances = new int[MAX_NODES * MAX_NODES];

        void explore(Network network) {
            markTurns(network);
            findDeadheads(network);
            for (int arc = 0; arc < 2 * network.edges; arc++) {
                for (int node = 0; node < network.nodes; node++) {
                    put(approaches, node * MAX_ARCS + arc, approach(network, node, arc));
                    put(returns, arc * MAX_NODES + node, returnTo(network, arc, node));
                }
            }
            for (int from = 0; from < network.nodes; from++) {
                for (int to = 0; to < network.nodes; to++) {
                    put(distances, from * MAX_NODES + to, between(network, from, to));
                }
            }
        }

        private void markTurns(Network network) {
            int arcs = 2 * network.edges;
            for (int x = 0; x < arcs; x++) {
                for (int y = 0; y < arcs; y++) {
                    put(deadheads, x * MAX_ARCS + y, network.allowsTurn(x, y) ? 0 : NO_WAY);
                }
            }
        }

        /** Lets one arc more be driven between others in each turn of the outer loop. */
        private void findDeadheads(Network network) {
            int arcs = 2 * network.edges;
            for (int via = 0; via < arcs; via++) {
                int cost = at(network.costs, via);
                for (int x = 0; x < arcs; x++) {
                    int here = at(deadheads, x * MAX_ARCS + via) + cost;
                    for (int y = 0; here < NO_WAY && y < arcs; y++) {
                        int found = here + at(deadheads, via * MAX_ARCS + y);
                        if (found < at(deadheads, x * MAX_ARCS + y)) {
                            put(deadheads, x * MAX_ARCS + y, found);
                        }
                    }
                }
            }
        }

        private int approach(Network network, int node, int arc) {
            if (network.start(arc) == node) {
                return 0;
            }
            int least = NO_WAY;
            for (int z = 0; z < 2 * network.edges; z++) {
                if (network.start(z) == node) {
                    least = Math.min(least, at(network.costs, z) + at(deadheads, z * MAX_ARCS + arc));
                }
            }
            return least;
        }

        private int returnTo(Network network, int arc, int node) {
            if (network.end(arc) == node) {
                return 0;
            }
            int least = NO_WAY;
            for (int z = 0; z < 2 * network.edges; z++) {
                if (network.end(z) == node) {
                    least = Math.min(least, at(deadheads, arc * MAX_ARCS + z) + at(network.costs, z));
                }
            }
            return least;
        }

        private int between(Network network, int from, int to) {
            if (from == to) {
                return 0;
            }
            int least = NO_WAY;
            for (int first = 0; first < 2 * network.edges; first++) {
                if (network.start(first) == from) {
                    least = Math.min(least, at(network.costs, first) + at(returns, first * MAX_NODES + to));
                }
            }
            return least;
        }

        /** The least cost of dividing a set of nodes into pairs; each level takes two nodes of at most eight. */
        private static int cheapestPairs(int[] distances, int set, int depth) {
            if (set == 0) {
                return 0;
            }
            int first = lowestIn(set);
            int rest = set & ~(1 << first);
            int least = NO_WAY;
            for (int second = first + 1; second < MAX_NODES && depth < MAX_NODES / 2; second++) {
                if ((rest >> second & 1) != 0) {
                    int pair = Math.min(at(distances, first * MAX_NODES + second),
                            at(distances, second * MAX_NODES + first));
                    int others = cheapestPairs(distances, rest & ~(1 << second), depth + 1);
                    least = Math.min(least, pair + others);
                }
            }
            return least;
        }

        private static int lowestIn(int set) {
            for (int node = 0; node < MAX_NODES; node++) {
                if ((set >> node & 1) != 0) {
                    return node;
                }
            }
            return 0;
        }
    }

    /** The tours: the node of the depot of each one, and its arcs in their order. */
    private static final class Plan {
        private int tours;
        private final int[] homes = new int[MAX_TOURS];
        private final int[] sizes = new int[MAX_TOURS];
        private final int[] arcs = new int[MAX_TOURS * MAX_EDGES];

        void clear() {
            tours = 0;
        }

        void copyFrom(Plan other) {
            tours = other.tours;
            copyRow(other.homes, homes);
            copyRow(other.sizes, sizes);
            copyRow(other.arcs, arcs);
        }

        int addTour(int home) {
            int tour = tours;
            put(homes, tour, home);
            put(sizes, tour, 0);
            tours++;
            return tour;
        }

        int arcOrDepot(int tour, int position) {
            if (position < 0 || position >= at(sizes, tour)) {
                return DEPOT;
            }
            return at(arcs, tour * MAX_EDGES + position);
        }

        int tourServing(int edge) {
            for (int tour = 0; tour < tours; tour++) {
                if (positionIn(tour, edge) != NONE) {
                    return tour;
                }
            }
            return NONE;
        }

        int positionIn(int tour, int edge) {
            int size = at(sizes, tour);
            for (int position = 0; position < size; position++) {
                if (at(arcs, tour * MAX_EDGES + position) / 2 == edge) {
                    return position;
                }
            }
            return NONE;
        }

        void putIn(int tour, int position, int arc) {
            int size = at(sizes, tour);
            if (size >= MAX_EDGES) {
                return;
            }
            int base = tour * MAX_EDGES;
            for (int i = size; i > position; i--) {
                put(arcs, base + i, at(arcs, base + i - 1));
            }
            put(arcs, base + position, arc);
            put(sizes, tour, size + 1);
        }

        void takeOut(int tour, int position) {
            int size = at(sizes, tour);
            if (size <= 0) {
                return;
            }
            int base = tour * MAX_EDGES;
            for (int i = position; i < size - 1; i++) {
                put(arcs, base + i, at(arcs, base + i + 1));
            }
            put(sizes, tour, size - 1);
        }

        void turnRound(int tour, int position) {
            int place = tour * MAX_EDGES + position;
            put(arcs, place, at(arcs, place) ^ 1);
        }
    }

    /** Prices the tours of a plan, and finds and makes the best insertions and changes. */
    private static final class Planner {
        private final Network network = new Network();
        private final Routes routes = new Routes();
        private final Plan plan = new Plan();

        boolean isWaiting(int edge) {
            return at(network.demands, edge) > 0 && plan.tourServing(edge) == NONE;
        }

        int demandIn(int tour) {
            int size = at(plan.sizes, tour);
            int sum = 0;
            for (int position = 0; position < size; position++) {
                sum += at(network.demands, plan.arcOrDepot(tour, position) / 2);
            }
            return sum;
        }

        boolean hasRoom(int tour, int edge) {
            return demandIn(tour) + at(network.demands, edge) <= network.capacity;
        }

        /** The cost of driving from one place of a tour to the next one; each is an arc or DEPOT. */
        private int link(int tour, int from, int to) {
            int home = at(plan.homes, tour);
            if (from == DEPOT) {
                return to == DEPOT ? 0 : at(routes.approaches, home * MAX_ARCS + to);
            }
            if (to == DEPOT) {
                return at(routes.returns, from * MAX_NODES + home);
            }
            return at(routes.deadheads, from * MAX_ARCS + to);
        }

        int costOf(int tour) {
            int size = at(plan.sizes, tour);
            int cost = 0;
            int last = DEPOT;
            for (int position = 0; position < size; position++) {
                int arc = plan.arcOrDepot(tour, position);
                cost += link(tour, last, arc) + at(network.services, arc);
                last = arc;
            }
            return cost + link(tour, last, DEPOT);
        }

        /** NO_WAY if the tour would not be drivable. */
        int increaseBy(int tour, int position, int arc) {
            int before = plan.arcOrDepot(tour, position - 1);
            int after = plan.arcOrDepot(tour, position);
            int links = link(tour, before, arc) + link(tour, arc, after);
            if (links >= NO_WAY) {
                return NO_WAY;
            }
            return links + at(network.services, arc) - link(tour, before, after);
        }

        boolean canSpare(int tour, int position) {
            int before = plan.arcOrDepot(tour, position - 1);
            int after = plan.arcOrDepot(tour, position + 1);
            return link(tour, before, after) < NO_WAY;
        }

        boolean canTurn(int tour, int position) {
            int before = plan.arcOrDepot(tour, position - 1);
            int after = plan.arcOrDepot(tour, position + 1);
            int turned = plan.arcOrDepot(tour, position) ^ 1;
            return link(tour, before, turned) + link(tour, turned, after) < NO_WAY;
        }

        /** The best insertion as bestInsertion tells it, or NONE. */
        int bestPlace(int edge) {
            int best = NONE;
            int least = NO_WAY;
            for (int tour = 0; tour < plan.tours; tour++) {
                int places = hasRoom(tour, edge) ? at(plan.sizes, tour) + 1 : 0;
                for (int position = 0; position < places; position++) {
                    for (int side = 0; side < 2; side++) {
                        int increase = increaseBy(tour, position, 2 * edge + side);
                        if (increase < least) {
                            least = increase;
                            best = 1000 * tour + 10 * position + side;
                        }
                    }
                }
            }
            return best;
        }

        private int increaseAt(int edge, int place) {
            return increaseBy(place / 1000, place % 1000 / 10, 2 * edge + place % 10);
        }

        boolean insertBest(int edge) {
            int place = bestPlace(edge);
            if (place == NONE) {
                return false;
            }
            plan.putIn(place / 1000, place % 1000 / 10, 2 * edge + place % 10);
            return true;
        }

        /** The gain of the best change of an edge; 0 also if there is none. */
        private int gainOf(int edge) {
            int tour = plan.tourServing(edge);
            int position = plan.positionIn(tour, edge);
            if (tour == NONE || !canSpare(tour, position)) {
                return 0;
            }
            int arc = plan.arcOrDepot(tour, position);
            plan.takeOut(tour, position);
            int saved = increaseBy(tour, position, arc);
            int place = bestPlace(edge);
            int gain = place == NONE ? 0 : saved - increaseAt(edge, place);
            plan.putIn(tour, position, arc);
            return gain;
        }

        /** Makes the best change with the greatest gain if that is above 0, and returns the gain. */
        int makeBestChange() {
            int chosen = NONE;
            int greatest = 0;
            for (int edge = 0; edge < network.edges; edge++) {
                int gain = gainOf(edge);
                if (gain > greatest) {
                    greatest = gain;
                    chosen = edge;
                }
            }
            if (chosen != NONE) {
                int tour = plan.tourServing(chosen);
                plan.takeOut(tour, plan.positionIn(tour, chosen));
                insertBest(chosen);
            }
            return greatest;
        }
    }

    /** The states before the latest changes, in a ring. */
    private static final class History {
        private final Network[] networks = new Network[MAX_UNDO];
        private final Plan[] plans = new Plan[MAX_UNDO];
        private final boolean[] loads = new boolean[MAX_UNDO];
        private int kept = 0;
        private int next = 0;

        History() {
            for (int slot = 0; slot < MAX_UNDO; slot++) {
                networks[slot] = new Network();
                plans[slot] = new Plan();
            }
        }

        private boolean isReady(int slot) {
            return slot >= 0 && slot < networks.length && slot < plans.length && slot < loads.length
                    && networks[slot] != null && plans[slot] != null;
        }

        /** The network is kept before a load alone: no other change touches it. */
        void remember(Network network, Plan plan, boolean isLoad) {
            if (!isReady(next)) {
                return;
            }
            loads[next] = isLoad;
            if (isLoad) {
                networks[next].copyFrom(network);
            }
            plans[next].copyFrom(plan);
            next = (next + 1) % MAX_UNDO;
            kept = Math.min(kept + 1, MAX_UNDO);
        }

        /** Undoes the latest change, which must be kept, and tells whether it was a load. */
        boolean restore(Network network, Plan plan) {
            int slot = (next + MAX_UNDO - 1) % MAX_UNDO;
            if (kept <= 0 || !isReady(slot)) {
                return false;
            }
            next = slot;
            kept--;
            plan.copyFrom(plans[slot]);
            if (loads[slot]) {
                network.copyFrom(networks[slot]);
            }
            return loads[slot];
        }
    }

    /** The service expression, with each operation behind its two operands. */
    private static final class Formula {
        /** Above all numbers that a factor can be; the operators stand as their negative signs. */
        private static final int COST = 10_000;
        private static final int DEMAND = 10_001;
        /** Five nested sums leave two operands waiting each, and the last one works on a third. */
        private static final int MAX_HEIGHT = 2 * (MAX_DEPTH + 1) + 1;

        private final int[] steps = new int[MAX_BYTES];
        private final int[] stack = new int[MAX_HEIGHT];
        private int size;

        void clear() {
            size = 0;
        }

        void addOperand(int operand) {
            put(steps, size, operand);
            size++;
        }

        void addOperator(int sign) {
            put(steps, size, -sign);
            size++;
        }

        int valueFor(int cost, int demand) {
            int height = 0;
            for (int i = 0; i < size; i++) {
                int step = at(steps, i);
                if (step < 0) {
                    height--;
                    put(stack, height - 1, applied(-step, at(stack, height - 1), at(stack, height)));
                } else {
                    put(stack, height, step == COST ? cost : step == DEMAND ? demand : step);
                    height++;
                }
            }
            return at(stack, 0);
        }

        private static int applied(int sign, long left, long right) {
            long result = 0;
            if (sign == '+') {
                result = left + right;
            } else if (sign == '-') {
                result = left - right;
            } else if (sign == '*') {
                result = left * right;
            } else if (right != 0) {
                result = left / right;
            }
            return limited(result, -MAX_RESULT, MAX_RESULT);
        }
    }

    /** Holds the input buffer, and reads it as a setup text into a network of its own. */
    private static final class SetupReader {
        /** The kinds of token beside the signs, which are their own kinds. */
        private static final int NUMBER = 256;
        private static final int WORD = 257;
        private static final int END = 258;
        /** Above every number that is allowed anywhere, so that larger ones need not be told apart. */
        private static final int HUGE = 100_000;

        private final byte[] text = new byte[MAX_BYTES];
        private final Network network = new Network();
        private final Formula formula = new Formula();
        private int buffered = 0;
        private int length = 0;
        private int start = 0;
        private int stop = 0;
        private int kind = END;
        private int value = 0;
        private boolean hasService = false;
        private int error = 0;
        private int errorAt = NONE;

        void addWord(int word) {
            for (int shift = 24; shift >= 0; shift -= 8) {
                if (buffered >= 0 && buffered < text.length) {
                    text[buffered] = (byte) (word >>> shift);
                    buffered++;
                }
            }
        }

        /** Empties the buffer, and returns 0 or the code of the first error. */
        int readSetup(int bytes) {
            startOver(bytes);
            takeWord("network");
            network.nodes = takeNumber(2, MAX_NODES);
            network.capacity = takeNumber(1, MAX_CAPACITY);
            takeSign(';');
            for (int turn = 0; turn < length && error == 0 && kind != END; turn++) {
                if (isWord("edge")) {
                    readEdge();
                } else if (isWord("ban")) {
                    readBan();
                } else if (isWord("depot")) {
                    readDepot();
                } else if (isWord("service") && !hasService) {
                    hasService = true;
                    next();
                    readSum(0);
                } else {
                    fail(SYNTAX_ERROR);
                }
                takeSign(';');
            }
            if (error == 0 && hasService) {
                priceServices();
            }
            return error;
        }

        private void startOver(int bytes) {
            network.clear();
            formula.clear();
            buffered = 0;
            length = bytes;
            stop = 0;
            hasService = false;
            error = 0;
            errorAt = NONE;
            next();
        }

        private void readEdge() {
            if (network.edges >= MAX_EDGES) {
                fail(TOO_MANY);
            }
            next();
            int a = takeNumber(0, network.nodes - 1);
            if (kind == NUMBER && value == a) {
                fail(OUT_OF_RANGE);
            }
            int b = takeNumber(0, network.nodes - 1);
            int forth = takeNumber(1, MAX_COST);
            int back = takeNumber(1, MAX_COST);
            int demand = takeNumber(0, MAX_DEMAND);
            if (error == 0) {
                network.addEdge(a, b, forth, back, demand);
            }
        }

        private void readBan() {
            next();
            int node = takeNumber(0, network.nodes - 1);
            int from = takeEdgeAt(node);
            int to = takeEdgeAt(node);
            if (error == 0) {
                network.banTurn(node, from, to);
            }
        }

        private int takeEdgeAt(int node) {
            if (kind == NUMBER && value < network.edges && !network.touches(value, node)) {
                fail(OUT_OF_RANGE);
            }
            return takeNumber(0, network.edges - 1);
        }

        private void readDepot() {
            if (network.depots >= MAX_DEPOTS) {
                fail(TOO_MANY);
            }
            next();
            int node = takeNumber(0, network.nodes - 1);
            if (error == 0) {
                network.addDepot(node);
            }
        }

        private void readSum(int depth) {
            readTerm(depth);
            for (int turn = 0; turn < length && error == 0 && (kind == '+' || kind == '-'); turn++) {
                int sign = kind;
                next();
                readTerm(depth);
                formula.addOperator(sign);
            }
        }

        private void readTerm(int depth) {
            readFactor(depth);
            for (int turn = 0; turn < length && error == 0 && (kind == '*' || kind == '/'); turn++) {
                int sign = kind;
                next();
                readFactor(depth);
                formula.addOperator(sign);
            }
        }

        private void readFactor(int depth) {
            if (isWord("cost")) {
                formula.addOperand(Formula.COST);
                next();
            } else if (isWord("demand")) {
                formula.addOperand(Formula.DEMAND);
                next();
            } else if (kind != '(') {
                formula.addOperand(takeNumber(0, MAX_SERVICE));
            } else if (depth >= MAX_DEPTH) {
                fail(TOO_DEEP);
            } else {
                next();
                readSum(depth + 1);
                takeSign(')');
            }
        }

        private void priceServices() {
            for (int arc = 0; arc < 2 * network.edges; arc++) {
                int result = formula.valueFor(at(network.costs, arc), at(network.demands, arc / 2));
                put(network.services, arc, limited(result, 0, MAX_SERVICE));
            }
        }

        /** What is met behind the first error stands behind it in the text too, so it is left out. */
        private void fail(int code) {
            if (error == 0) {
                error = code;
                errorAt = start;
            }
        }

        private int takeNumber(int low, int high) {
            int taken = value;
            if (kind != NUMBER) {
                fail(SYNTAX_ERROR);
                return low;
            }
            if (taken < low || taken > high) {
                fail(OUT_OF_RANGE);
                return low;
            }
            next();
            return taken;
        }

        private void takeWord(String word) {
            if (!isWord(word)) {
                fail(SYNTAX_ERROR);
            }
            next();
        }

        private void takeSign(char sign) {
            if (kind != sign) {
                fail(SYNTAX_ERROR);
            }
            next();
        }

        private boolean isWord(String word) {
            if (kind != WORD || stop - start != word.length()) {
                return false;
            }
            for (int i = 0; i < word.length(); i++) {
                if (byteAt(start + i) != word.charAt(i)) {
                    return false;
                }
            }
            return true;
        }

        /** Steps to the next token, which is the run of bytes from start to stop. */
        private void next() {
            start = stop;
            while (start < length && byteAt(start) == ' ') {
                start++;
            }
            stop = start;
            value = 0;
            if (start >= length) {
                kind = END;
            } else if (isDigit(byteAt(start))) {
                kind = NUMBER;
                while (stop < length && isDigit(byteAt(stop))) {
                    value = Math.min(HUGE, 10 * value + byteAt(stop) - '0');
                    stop++;
                }
            } else if (isLetter(byteAt(start))) {
                kind = WORD;
                while (stop < length && isLetter(byteAt(stop))) {
                    stop++;
                }
            } else {
                kind = byteAt(start);
                stop++;
            }
        }

        private int byteAt(int index) {
            return index >= 0 && index < text.length ? text[index] & 255 : 0;
        }

        private static boolean isDigit(int sign) {
            return sign >= '0' && sign <= '9';
        }

        private static boolean isLetter(int sign) {
            return sign >= 'a' && sign <= 'z';
        }
    }
}
