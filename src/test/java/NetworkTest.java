/** Promises 5 to 15: what is asked about the network. */
public final class NetworkTest {
    /**
     * Arcs: 0 from 0 to 1 for 3, 1 back for 5; 2 from 1 to 2 for 4, 3 back for 6; 4 from 2 to 0 for 7, 5 back for 1;
     * 6 from 2 to 3 for 2, 7 back for 9. Arc 2 may not follow arc 0, nor arc 0 arc 1.
     */
    static final String FOUR = "network 4 50;edge 0 1 3 5 2;edge 1 2 4 6 3;edge 2 0 7 1 1;edge 2 3 2 9 0;"
            + "ban 1 0 1;ban 0 0 0;depot 0;depot 3;";

    public static void main(String[] args) {
        counts();
        edges();
        turns();
        deadheads();
        distances();
        servicesWithoutStatement();
        services();
        oddNodes();
        matchings();
        Due.end();
    }

    private static void counts() {
        WindyTours x = Due.with(FOUR);
        Due.is("5: nodeCount", x.nodeCount(), 4);
        Due.is("6: edgeCount", x.edgeCount(), 4);
        Due.is("7: depotCount", x.depotCount(), 2);
        Due.is("8: tourCount", x.tourCount(), 0);
        Due.is("5: nodes need no edges", Due.with("network 8 1;").nodeCount(), 8);
        Due.is("6: 14 edges", Due.with("network 2 1;" + "edge 1 0 1 1 0;".repeat(14)).edgeCount(), 14);
        Due.is("7: 3 depots", Due.with("network 2 1;depot 1;depot 1;depot 1;").depotCount(), 3);
    }

    private static void edges() {
        WindyTours x = Due.with(FOUR);
        int[] due = {2, 0, 7, 1, 1, 2, 3, 2, 9, 0};
        for (int i = 0; i < due.length; i++) {
            Due.is("9: edge " + (2 + i / 5) + " " + i % 5, x.edge(2 + i / 5, i % 5), due[i]);
        }
        Due.noIndex("9: edge(4, 0)", () -> x.edge(4, 0));
        Due.noIndex("9: edge(-1, 0)", () -> x.edge(-1, 0));
        Due.noIndex("9: edge(greatest, 0)", () -> x.edge(Integer.MAX_VALUE, 0));
        Due.noIndex("9: edge(least, 0)", () -> x.edge(Integer.MIN_VALUE, 0));
        Due.noIndex("9: both are wrong", () -> x.edge(4, 5));
        Due.noArgument("9: edge(0, 5)", () -> x.edge(0, 5));
        Due.noArgument("9: edge(0, -1)", () -> x.edge(0, -1));
    }

    private static void turns() {
        WindyTours x = Due.with(FOUR);
        Due.no("10: a banned turn", x.mayFollow(0, 2));
        Due.yes("10: the other way round", x.mayFollow(3, 1));
        Due.yes("10: back by the same edge", x.mayFollow(0, 1));
        Due.no("10: back by the same edge, banned", x.mayFollow(1, 0));
        Due.yes("10: that ban is for one node", x.mayFollow(7, 6));
        Due.yes("10: another edge there", x.mayFollow(1, 5));
        Due.no("10: another node", x.mayFollow(0, 4));
        Due.no("10: not after itself", x.mayFollow(0, 0));
        Due.noIndex("10: x too large", () -> x.mayFollow(8, 0));
        Due.noIndex("10: y too large", () -> x.mayFollow(0, 8));
        Due.noIndex("10: x negative", () -> x.mayFollow(-1, 0));
        Due.noIndex("10: y negative", () -> x.mayFollow(0, -1));
        WindyTours y = Due.with("network 2 1;edge 1 0 1 1 1;edge 0 1 1 1 1;ban 0 0 1;");
        Due.no("10: the edge can be told from b", y.mayFollow(0, 2));
        Due.yes("10: at the other node", y.mayFollow(1, 3));
        WindyTours z = Due.with("network 3 1;edge 0 1 1 1 1;edge 1 2 1 1 1;edge 2 0 1 1 1;ban 0 2 0;ban 1 1 0;");
        Due.no("10: from b of a later edge", z.mayFollow(4, 0));
        Due.no("10: from a of a later edge", z.mayFollow(3, 1));
        Due.yes("10: to a", z.mayFollow(1, 5));
        Due.yes("10: to b", z.mayFollow(0, 2));
        Due.yes("10: at the node of no ban", z.mayFollow(2, 4));
    }

    private static void deadheads() {
        WindyTours x = Due.with(FOUR);
        Due.is("11: y may follow x", x.deadhead(0, 1), 0);
        Due.is("11: round a ban", x.deadhead(0, 2), 12);
        Due.is("11: the same arc", x.deadhead(0, 0), 13);
        Due.is("11: one arc between", x.deadhead(1, 6), 1);
        Due.is("11: several arcs between", x.deadhead(7, 5), 7);
        Due.is("11: there and back", x.deadhead(6, 6), 9);
        Due.noIndex("11: x", () -> x.deadhead(8, 0));
        Due.noIndex("11: y", () -> x.deadhead(0, 8));
        Due.noIndex("11: x negative", () -> x.deadhead(-1, 0));
        Due.noIndex("11: y negative", () -> x.deadhead(0, Integer.MIN_VALUE));
        WindyTours y = Due.with("network 4 1;edge 0 1 1 1 1;edge 2 3 1 1 1;ban 1 0 0;");
        Due.is("11: no way", y.deadhead(0, 2), -1);
        Due.is("11: no way back", y.deadhead(0, 1), -1);
        Due.is("11: no way to the same arc", y.deadhead(0, 0), -1);
        Due.is("11: a way in the other part", y.deadhead(2, 3), 0);
        Due.is("11: by arc 0", Due.with("network 3 1;edge 0 1 2 9 1;edge 1 2 9 9 1;edge 2 0 9 9 1;").deadhead(4, 2), 2);
        Due.is("11: a long way", Due.with("network 8 1;edge 0 1 99 1 1;edge 1 2 99 1 1;edge 2 3 99 1 1;edge 3 4 99 1 1;"
                + "edge 4 5 99 1 1;edge 5 6 99 1 1;edge 6 7 99 1 1;").deadhead(0, 12), 495);
    }

    private static void distances() {
        WindyTours x = Due.with(FOUR);
        int[][] due = {{0, 3, 1, 3}, {5, 0, 4, 6}, {7, 6, 0, 2}, {16, 15, 9, 0}};
        for (int from = 0; from < 4; from++) {
            for (int to = 0; to < 4; to++) {
                Due.is("12: distance " + from + " " + to, x.distance(from, to), due[from][to]);
            }
        }
        Due.noIndex("12: from", () -> x.distance(4, 0));
        Due.noIndex("12: to", () -> x.distance(0, 4));
        Due.noIndex("12: from negative", () -> x.distance(-1, 0));
        Due.noIndex("12: to negative", () -> x.distance(0, -1));
        WindyTours y = Due.with("network 3 9;edge 0 1 1 1 1;edge 1 2 1 1 1;ban 1 0 1;");
        Due.is("12: banned", y.distance(0, 2), -1);
        Due.is("12: not banned", y.distance(2, 0), 2);
        WindyTours z = Due.with("network 5 9;edge 0 1 1 1 1;edge 1 2 1 1 1;edge 1 3 5 7 1;ban 1 0 1;");
        Due.is("12: turned round to pass a ban", z.distance(0, 2), 14);
        Due.is("12: a node without edges", z.distance(4, 0), -1);
        Due.is("12: from it to itself", z.distance(4, 4), 0);
    }

    private static void servicesWithoutStatement() {
        WindyTours x = Due.with(FOUR);
        int[] due = {3, 5, 4, 6, 7, 1, 2, 9};
        for (int arc = 0; arc < due.length; arc++) {
            Due.is("13: serviceCost " + arc, x.serviceCost(arc), due[arc]);
        }
        Due.noIndex("13: too large", () -> x.serviceCost(8));
        Due.noIndex("13: negative", () -> x.serviceCost(-1));
    }

    private static void service(String sum, int forth, int back) {
        WindyTours x = Due.with("network 2 9;service " + sum + ";edge 0 1 30 7 4;");
        Due.is("13: " + sum + ", forth", x.serviceCost(0), forth);
        Due.is("13: " + sum + ", back", x.serviceCost(1), back);
    }

    private static void services() {
        service("cost", 30, 7);
        service("demand", 4, 4);
        service("9999", 9999, 9999);
        service("cost+demand*2", 38, 15);
        service("(cost+demand)*2", 68, 22);
        service("cost-demand-1", 25, 2);
        service("cost-(demand-1)", 27, 4);
        service("cost-demand*2+1", 23, 0);
        service("cost/2*2", 30, 6);
        service("60/cost/demand", 0, 2);
        service("2+7*3-8/3", 21, 21);
        service("demand-cost", 0, 0);
        service("cost*cost*cost", 9999, 343);
        service("5+7/0", 5, 5);
        service("cost/(demand-4)+1", 1, 1);
        service("0/0", 0, 0);
        service("(0-cost)/4+10", 3, 9);
        service("10-cost/4", 3, 9);
        service("cost/(0-4)+10", 3, 9);
        service("9999*9999/1000", 1000, 1000);
        service("(0-9999*9999)/1000+2000", 1000, 1000);
        service("(0-9999)*9999*9999/1000+1500", 500, 500);
        service("9999*9999+9999-9999*100-9", 91, 91);
        service("0-9999*100-9999+9999*100", 0, 0);
        service("0-9999*100-9999+9999*100+9999", 9899, 9899);
        service("(((cost)+1)*((2)))", 62, 16);
        service("((((cost-1)*2-3)*4-5)*6-7)/100", 12, 1);
        service("9+2*(3+4*(5+6*(7+8*(9+2*cost))))", 9999, 9223);
        service("1+1*(1+1*(1+1*(1+1*(1+1*cost))))", 35, 12);
        service("5000+1*(4-5*(6-7*(8-9*(10-cost))))", 9999, 4309);
        WindyTours x = Due.with("network 2 9;edge 0 1 1 1 0;service 2*cost;edge 0 1 5 1 0;");
        Due.is("13: an edge before the statement", x.serviceCost(0), 2);
        Due.is("13: an edge behind it", x.serviceCost(2), 10);
    }

    private static void oddNodes() {
        Due.is("14: a ring", Due.with(FOUR).oddNodes(), 0);
        Due.is("14: demand 0 does not count", Due.with("network 3 9;edge 0 1 1 1 0;edge 1 2 1 1 5;").oddNodes(), 6);
        Due.is("14: parallel edges", Due.with("network 3 9;edge 0 1 1 1 1;edge 1 0 1 1 1;edge 0 1 1 1 1;").oddNodes(), 3);
        Due.is("14: all nodes", Due.with("network 8 9;edge 0 1 1 1 1;edge 2 3 1 1 1;edge 4 5 1 1 1;edge 6 7 1 1 1;").oddNodes(), 255);
        Due.is("14: no edges", Due.with("network 8 9;").oddNodes(), 0);
        WindyTours x = Due.with("network 2 9;edge 0 1 1 1 1;depot 0;");
        x.openTour(0);
        x.build();
        Due.is("14: served edges count, too", x.oddNodes(), 3);
    }

    private static void matching(String what, String text, int due) {
        Due.is("15: " + what, Due.with(text).matching(), due);
    }

    private static void matchings() {
        matching("no odd nodes", FOUR, 0);
        matching("the smaller of both directions", "network 2 9;edge 0 1 9 4 1;", 4);
        matching("the smaller one the other way", "network 2 9;edge 1 0 9 4 1;", 4);
        matching("two parts", "network 4 9;edge 0 1 5 7 1;edge 2 3 4 2 1;", 7);
        matching("nodes that are no neighbours", "network 4 9;edge 0 1 10 10 1;edge 2 3 10 10 1;edge 1 2 1 1 0;edge 0 3 1 1 0;", 2);
        matching("first with third", "network 4 9;edge 0 1 10 10 1;edge 2 3 10 10 1;edge 0 2 1 1 0;edge 1 3 2 1 0;", 2);
        matching("eight nodes", "network 8 9;edge 0 1 1 9 1;edge 2 3 9 2 1;edge 4 5 3 9 1;edge 6 7 9 4 1;", 10);
        matching("one direction is enough", "network 3 9;edge 0 1 1 1 1;edge 1 2 3 4 1;ban 1 0 1;", 5);
        matching("none", "network 3 9;edge 0 1 1 1 1;edge 1 2 3 4 1;ban 1 0 1;ban 1 1 0;", -1);
        matching("none in one part", "network 5 9;edge 0 1 1 1 1;edge 1 2 3 4 1;ban 1 0 1;ban 1 1 0;edge 3 4 1 1 1;", -1);
        matching("but one that is possible", "network 4 9;edge 0 1 9 9 1;edge 0 2 1 1 1;edge 0 3 9 9 1;"
                + "ban 0 0 1;ban 0 1 0;ban 0 2 1;ban 0 1 2;", 19);
    }
}
