import java.util.ArrayList;
import java.util.List;

/** Makes setup texts, right and damaged ones, the same for the same seed. */
final class SetupMaker {
    private long state;

    SetupMaker(long seed) {
        state = seed * 0x9E3779B97F4A7C15L + 1;
    }

    /** 0 to bound - 1. */
    int below(int bound) {
        state = state * 6364136223846793005L + 1442695040888963407L;
        return (int) Long.remainderUnsigned(state >>> 33, bound);
    }

    int between(int low, int high) {
        return low + below(high - low + 1);
    }

    boolean oneIn(int n) {
        return below(n) == 0;
    }

    String setup() {
        String text = setupOfAnyLength();
        while (text.length() > 700) {
            text = setupOfAnyLength();
        }
        return text;
    }

    private String setupOfAnyLength() {
        int nodes = between(2, 8);
        int edges = oneIn(3) ? between(0, 4) : between(3, 14);
        int capacity = oneIn(3) ? between(1, 40) : between(20, 999);
        int cost = oneIn(2) ? 99 : 6;
        int bans = oneIn(3) ? 0 : oneIn(2) ? between(0, 22) : between(15, 45);
        List<String> texts = new ArrayList<>();
        int[][] ends = new int[edges][2];
        for (int edge = 0; edge < edges; edge++) {
            int a = below(nodes);
            int b = (a + between(1, nodes - 1)) % nodes;
            ends[edge] = new int[] {a, b};
            int demand = oneIn(5) ? 0 : oneIn(8) ? 99 : between(1, 20);
            texts.add("edge " + a + " " + b + " " + between(1, cost) + " " + between(1, cost) + " " + demand);
        }
        for (int i = 0; i < bans && edges > 0; i++) {
            int from = below(edges);
            int node = ends[from][below(2)];
            int to = below(edges);
            if (ends[to][0] == node || ends[to][1] == node) {
                texts.add("ban " + node + " " + from + " " + to);
            }
        }
        int depots = oneIn(12) ? 0 : between(1, 3);
        for (int depot = 0; depot < depots; depot++) {
            texts.add(below(texts.size() + 1 - bansIn(texts)), "depot " + below(nodes));
        }
        if (!oneIn(3)) {
            texts.add(below(texts.size() + 1 - bansIn(texts)), "service " + sum(0));
        }
        return "network " + nodes + " " + capacity + ";" + spaced(texts);
    }

    private static int bansIn(List<String> texts) {
        return (int) texts.stream().filter(text -> text.startsWith("ban")).count();
    }

    private String spaced(List<String> texts) {
        StringBuilder all = new StringBuilder();
        for (String text : texts) {
            all.append(oneIn(8) ? "  " : "").append(oneIn(4) ? text.replaceFirst(" ", "") : text);
            all.append(oneIn(8) ? " ;" : ";");
        }
        return all.append(oneIn(4) ? " " : "").toString();
    }

    private String sum(int depth) {
        StringBuilder sum = new StringBuilder(term(depth));
        for (int i = below(3); i > 0; i--) {
            sum.append(oneIn(2) ? "+" : "-").append(term(depth));
        }
        return sum.toString();
    }

    private String term(int depth) {
        StringBuilder term = new StringBuilder(factor(depth));
        for (int i = oneIn(2) ? below(4) : 0; i > 0; i--) {
            term.append(oneIn(3) ? " / " : "*").append(factor(depth));
        }
        return term.toString();
    }

    private String factor(int depth) {
        if (depth < 4 && oneIn(4)) {
            return "(" + sum(depth + 1) + ")";
        }
        return oneIn(3) ? "cost" : oneIn(2) ? "demand" : oneIn(3) ? "9999" : "" + below(12);
    }

    /** A text with some places damaged; it may still be right. */
    String damaged(String text) {
        String damaged = text;
        for (int i = between(1, 3); i > 0; i--) {
            damaged = damagedOnce(damaged);
        }
        return damaged.length() <= 700 ? damaged : damaged.substring(0, 700);
    }

    private static final String[] PIECES = {
        " ", ";", "(", ")", "((((", "))))", "(((((1)))))", "(((((1)))))", "((((", "+", "-", "*", "/", "0", "00000000000000000", "9", "99", "100", "1000",
        "10000", "4294967297", "edge", "edge 0 1 1 1 1;", "ban", "depot 0;", "depot", "service", "service 1;", "cost",
        "demand", "network", "x", "E", "#", "\t", "\n", "\0", "\u00e9", "\u00ff", "edge1 0 1 1 1 ;", "ban 0 0 0;", ","};

    private String damagedOnce(String text) {
        int at = below(text.length() + 1);
        int to = Math.min(text.length(), at + between(0, 3));
        switch (below(6)) {
            case 0:
                return text.substring(0, at) + text.substring(to);
            case 1:
                return text.substring(0, at);
            case 2:
                int from = text.lastIndexOf(';', at) + 1;
                int end = text.indexOf(';', from) + 1;
                return end == 0 ? text : text.substring(0, end) + text.substring(from, end) + text.substring(end);
            case 3:
                return text.substring(0, at) + PIECES[below(PIECES.length)] + text.substring(to);
            default:
                return text.substring(0, at) + PIECES[below(PIECES.length)] + text.substring(at);
        }
    }
}
