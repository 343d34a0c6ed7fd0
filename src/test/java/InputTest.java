/** Promises 1 to 4: a new object, append, load with all its errors, errorOffset. */
public final class InputTest {
    private static final String HEAD = "network 2 1;";
    private static final String EDGE = "edge 0 1 1 1 1;";

    public static void main(String[] args) {
        newObject();
        appending();
        byteOrder();
        wrongLengths();
        theBufferIsEmptiedByEachLoad();
        rightTexts();
        syntaxErrors();
        numbersOutOfRange();
        tooMany();
        tooDeep();
        theFirstErrorCounts();
        cutTexts();
        anErrorLeavesTheData();
        aLoadReplacesTheData();
        Due.end();
    }

    private static void newObject() {
        WindyTours x = new WindyTours();
        Due.is("1: nodes", x.nodeCount(), 0);
        Due.is("1: edges", x.edgeCount(), 0);
        Due.is("1: depots", x.depotCount(), 0);
        Due.is("1: tours", x.tourCount(), 0);
        Due.is("1: total", x.totalCost(), 0);
        Due.is("1: unserved", x.unserved(), 0);
        Due.is("1: matching", x.matching(), 0);
        Due.is("1: checksum", x.checksum(), 0);
        Due.is("1: undo", x.undo(), -1);
        Due.is("4: errorOffset of a new object", x.errorOffset(), -1);
        Due.noArgument("1: load(1) of an empty buffer", () -> x.load(1));
        Due.is("1: other objects share nothing", Due.with(HEAD).nodeCount() + x.nodeCount(), 2);
    }

    private static void appending() {
        WindyTours x = new WindyTours();
        for (int i = 1; i <= 35; i++) {
            Due.is("2: append " + i, x.append(0x20202020, 0x20202020, 0x20202020, 0x20202020, 0x20202020), 20 * i);
        }
        Due.is("2: append beyond 700", x.append(1, 1, 1, 1, 1), -1);
        Due.is("2: append beyond 700 again", x.append(1, 1, 1, 1, 1), -1);
        Due.noArgument("2: the buffer stays at 700", () -> x.load(701));
        Due.is("2: 700 spaces", x.load(700), WindyTours.SYNTAX_ERROR);
        Due.is("2: the buffer is as it was", x.errorOffset(), 700);
        Due.is("2: append after load", x.append(0, 0, 0, 0, 0), 20);

        String text = HEAD + " ".repeat(658) + EDGE + EDGE;
        Due.is("2: a text of 700 bytes", text.length(), 700);
        Due.is("2: it can be loaded", Due.loaded(new WindyTours(), text), 2);
    }

    private static void byteOrder() {
        WindyTours x = new WindyTours();
        // "netw" "ork " "2 1;" and then bytes that no text may have, the first of them with the highest bit
        x.append(0x6e657477, 0x6f726b20, 0x3220313b, 0xff800001, 0x80000000);
        Due.is("2: bytes", x.load(20), WindyTours.SYNTAX_ERROR);
        Due.is("2: the most significant byte first", x.errorOffset(), 12);
        for (int i = 0; i < 4; i++) {
            int word = 0x20202020 ^ (0x20 ^ 0xff) << 24 - 8 * i;
            x.append(0x6e657477, 0x6f726b20, 0x3220313b, word, word);
            x.load(20);
            Due.is("2: byte " + i + " of a word", x.errorOffset(), 12 + i);
        }
    }

    private static void wrongLengths() {
        WindyTours x = new WindyTours();
        Due.is("3: an empty text", x.load(0), WindyTours.SYNTAX_ERROR);
        Due.is("4: its offset", x.errorOffset(), 0);
        Due.appended(x, HEAD);
        Due.noArgument("3: load(-1)", () -> x.load(-1));
        Due.noArgument("3: load(21)", () -> x.load(21));
        Due.noArgument("3: load(least)", () -> x.load(Integer.MIN_VALUE));
        Due.noArgument("3: load(greatest)", () -> x.load(Integer.MAX_VALUE));
        Due.is("4: a load that throws leaves the offset", x.errorOffset(), 0);
        Due.is("3: the buffer is unchanged then", x.load(12), 0);
        Due.is("4: no error", x.errorOffset(), -1);
        Due.is("3: the network is read", x.nodeCount(), 2);
    }

    private static void theBufferIsEmptiedByEachLoad() {
        WindyTours x = new WindyTours();
        Due.appended(x, HEAD + EDGE + EDGE);
        Due.is("3: only the first bytes are read", x.load(HEAD.length()), 0);
        Due.noArgument("3: the rest is gone", () -> x.load(1));
        Due.appended(x, "?" + HEAD);
        Due.is("3: an error", x.load(13), WindyTours.SYNTAX_ERROR);
        Due.noArgument("3: the buffer is empty after an error, too", () -> x.load(1));
        Due.is("3: append starts anew", Due.appended(x, HEAD), 20);
    }

    private static void rightTexts() {
        Due.right(HEAD, 0);
        Due.right("network 8 999;", 0);
        Due.right("   network  2   1  ;   ", 0);
        Due.right("network2 1;edge0 1 1 1 1;", 1);
        Due.right("network 0002 00000000000000000000000000000001 ;", 0);
        Due.right(HEAD + "edge 0 1 99 99 99;edge 1 0 1 1 0;", 2);
        Due.right(HEAD + EDGE.repeat(14), 14);
        Due.right(HEAD + EDGE + "ban 0 0 0;ban 0 0 0;ban1 0 0;", 1);
        Due.right(HEAD + "depot 0;depot 1;depot 0;", 0);
        Due.right(HEAD + "depot 1;service 1;" + EDGE + "ban 1 0 0;depot 0;" + EDGE, 2);
        Due.right(HEAD + "service cost;", 0);
        Due.right(HEAD + "service((((9999))))*( (((0)))) ;", 0);
        Due.right(HEAD + "service 2*cost;", 0);
        Due.right(HEAD + "service 1+2-3*4/5+(cost-demand)*00000000001;", 0);
    }

    private static void syntaxErrors() {
        for (String text : new String[] {
            "!", "   !", "!netwerk 2 1;", "!networks 2 1;", "!networ", "!Network 2 1;", "!edge 0 1 1 1 1;", "!2 network 1;", "!;",
            "network!", "network 2!", "network 2 1!", "network 2 1   !", "network !a 1;", "network !;", "network 2 !;",
            "network 2 1 !1;", "network 2!-1;", "network !-2 1;", "network 2 1!.;", "network!\t2 1;", "network 2 1;!\n",
            "network 2 1;!\0", "network 2 1;!\u00ff", "network 2 1;!\u00b2", "network 2!,1;",
            HEAD + "!;", HEAD + "!5;", HEAD + "!99999;", HEAD + "!network 2 1;", HEAD + "!x;", HEAD + "!edges 0 1 1 1 1;",
            HEAD + "!Edge 0 1 1 1 1;", HEAD + "!cost;", HEAD + "!(1);", HEAD + "!edg", HEAD + "!edgez 0 1 1 1 1;", HEAD + "!adge 0 1 1 1 1;", HEAD + EDGE + "!fan 0 0 0;", HEAD + "!zdepot 0;",
            HEAD + "edge!", HEAD + "edge !;", HEAD + "edge 0 1 1 1 !;", HEAD + "edge 0 1 1 1 1 !1;", HEAD + "edge 0 1 1 1 1!",
            HEAD + "edge 0 !x 1 1 1;", HEAD + "edge 0 1 1 1 1 !edge 0 1 1 1 1;", HEAD + "edge 0 1 1 1 !(1);",
            HEAD + EDGE + "ban 0 0!", HEAD + EDGE + "ban 0 0 !;", HEAD + EDGE + "ban 0 0 0 !0;", HEAD + EDGE + "ban !;",
            HEAD + EDGE + "ban 0 !x;", HEAD + EDGE + "!bann 0 0 0;",
            HEAD + "depot!", HEAD + "depot !;", HEAD + "depot 0 !0;", HEAD + "depot 0!", HEAD + "depot 0 ; !depots 0;",
            HEAD + "service!", HEAD + "service !;", HEAD + "service 1 !1;", HEAD + "service !-1;", HEAD + "service 1+!;",
            HEAD + "service 1+!+1;", HEAD + "service 1*!/1;", HEAD + "service (1!;", HEAD + "service (1!", HEAD + "service 1!);",
            HEAD + "service !);", HEAD + "service (!);", HEAD + "service !costs;", HEAD + "service !Cost;", HEAD + "service cost !demand;",
            HEAD + "service cost!(1);", HEAD + "service 2 !cost;", HEAD + "service !costdemand;", HEAD + "service !edge;",
            HEAD + "service 1;!service 1;", HEAD + "service 1; " + EDGE + " !service;", HEAD + "service 1!%2;"}) {
            Due.wrongAt(text, WindyTours.SYNTAX_ERROR);
        }
    }

    private static void numbersOutOfRange() {
        for (String text : new String[] {
            "network !1 1;", "network !0 1;", "network !9 1;", "network !00009 1;", "network !4294967298 1;",
            "network !18446744073709551618 1;", "network !340282366920938463463374607431768211458 1;",
            "network 2 !0;", "network 2 !1000;", "network 2 !4294967297;", "network 2 !000;", "network 2 !2147483648;",
            HEAD + "edge !2 1 1 1 1;", HEAD + "edge 0 !2 1 1 1;", HEAD + "edge 0 !0 1 1 1;", HEAD + "edge 1 !01 1 1 1;",
            HEAD + "edge 0 1 !0 1 1;", HEAD + "edge 0 1 !100 1 1;", HEAD + "edge 0 1 1 !0 1;", HEAD + "edge 0 1 1 !100 1;",
            HEAD + "edge 0 1 1 1 !100;", HEAD + "edge !8 1 1 1 1;", "network 7 1;edge 0 !7 1 1 1;",
            HEAD + "ban !2 0 0;", HEAD + "ban 0 !0 0;", HEAD + EDGE + "ban 0 0 !1;" + EDGE, HEAD + EDGE + "ban 0 !1 0;" + EDGE,
            HEAD + EDGE + "ban 0 !14 0;", HEAD + EDGE + "ban 0 !4294967296 0;",
            "network 3 1;" + EDGE + "edge 1 2 1 1 1;ban 2 !0 1;", "network 3 1;" + EDGE + "edge 1 2 1 1 1;ban 0 0 !1;",
            "network 3 1;" + EDGE + "edge 1 2 1 1 1;ban 2 1 !0;", "network 3 1;" + EDGE + "ban 2 !0 0;",
            HEAD + "depot !2;", HEAD + "depot !99999999999;", "network 8 1;depot 7;depot !8;",
            HEAD + "service !10000;", HEAD + "service cost+!00010000;", HEAD + "service (((( !4294967296))));"}) {
            Due.wrongAt(text, WindyTours.OUT_OF_RANGE);
        }
    }

    private static void tooMany() {
        Due.wrongAt(HEAD + EDGE.repeat(14) + " !edge 0 1 1 1 1;", WindyTours.TOO_MANY);
        Due.wrongAt(HEAD + EDGE.repeat(14) + "!edge", WindyTours.TOO_MANY);
        Due.wrongAt(HEAD + EDGE.repeat(14) + "!edge 5 5 ? x", WindyTours.TOO_MANY);
        Due.wrongAt(HEAD + "depot 0;depot 0;depot 1; !depot 1;", WindyTours.TOO_MANY);
        Due.wrongAt(HEAD + "depot 0;depot 0;depot 1;!depot 2;", WindyTours.TOO_MANY);
        Due.wrongAt(HEAD + "depot 0;depot 0;depot 1;!depots 2;", WindyTours.SYNTAX_ERROR);
    }

    private static void tooDeep() {
        Due.wrongAt(HEAD + "service ((((!(1)))));", WindyTours.TOO_DEEP);
        Due.wrongAt(HEAD + "service (((1+(2*!(3)))));", WindyTours.TOO_DEEP);
        Due.wrongAt(HEAD + "service ((((1))))+((((!((((2))))", WindyTours.TOO_DEEP);
        Due.wrongAt(HEAD + "service ((((1!((2))))));", WindyTours.SYNTAX_ERROR);
        Due.wrongAt(HEAD + "service ((((!", WindyTours.SYNTAX_ERROR);
    }

    private static void theFirstErrorCounts() {
        Due.wrongAt("network !9 0;?", WindyTours.OUT_OF_RANGE);
        Due.wrongAt(HEAD + "edge !2 2 0 0;", WindyTours.OUT_OF_RANGE);
        Due.wrongAt(HEAD + "edge 0 !0 x", WindyTours.OUT_OF_RANGE);
        Due.wrongAt(HEAD + "edge 0 1 !x 0", WindyTours.SYNTAX_ERROR);
        Due.wrongAt(HEAD + "service !10000 (((((((1", WindyTours.OUT_OF_RANGE);
        Due.wrongAt(HEAD + "service ((((!(10000 ?", WindyTours.TOO_DEEP);
        Due.wrongAt(HEAD + "depot 0;depot 0;depot !2;depot 0;", WindyTours.OUT_OF_RANGE);
        Due.wrongAt(HEAD + "ban !5 5 5 5", WindyTours.OUT_OF_RANGE);
        Due.wrongAt(HEAD + "!10000 edge", WindyTours.SYNTAX_ERROR);
        Due.wrongAt("!?network 9 9", WindyTours.SYNTAX_ERROR);
    }

    /** The sign | is where the text ends; what stands behind it in the buffer is not read. */
    private static void cutTexts() {
        for (String marked : new String[] {"network 2 1|23;", "network 2 1 | ;", "network| 2 1;", "networ|k 2 1;", "|network 2 1;",
            HEAD + EDGE + "edge 0 1 1 1 |1;", HEAD + "service 1|+1;", HEAD + "service (1|);", HEAD + "depot 1|;"}) {
            WindyTours x = new WindyTours();
            int length = marked.indexOf('|');
            Due.appended(x, marked.replace("|", ""));
            Due.is("3: load of '" + marked + "'", x.load(length), WindyTours.SYNTAX_ERROR);
            Due.is("4: errorOffset of '" + marked + "'", x.errorOffset(), marked.startsWith("networ|") ? 0 : length);
        }
        WindyTours x = new WindyTours();
        Due.appended(x, HEAD + EDGE + EDGE);
        Due.is("3: the text ends behind a statement", x.load(HEAD.length() + EDGE.length()), 1);
    }

    private static void anErrorLeavesTheData() {
        WindyTours x = Due.with("network 3 7;edge 0 2 5 6 1;depot 2;");
        x.openTour(0);
        x.insert(0, 0, 0);
        long sum = x.checksum();
        Due.is("3: an error", Due.loaded(x, "network 2 1;edge 0 1 2 3 4;depot 0;service 7;depot 5;"), WindyTours.OUT_OF_RANGE);
        Due.is("4: its offset", x.errorOffset(), 51);
        Due.is("3: nodes", x.nodeCount(), 3);
        Due.is("3: edges", x.edgeCount(), 1);
        Due.is("3: end", x.edge(0, 1), 2);
        Due.is("3: depots", x.depotCount(), 1);
        Due.is("3: tours", x.tourCount(), 1);
        Due.is("3: service", x.serviceCost(0), 5);
        Due.is("3: distance", x.distance(2, 0), 6);
        Due.is("3: checksum", x.checksum(), sum);
        Due.is("3: a load that fails is no change", x.undo(), 2);
    }

    private static void aLoadReplacesTheData() {
        WindyTours x = Due.with("network 3 7;edge 0 2 5 6 1;edge 1 2 1 1 1;edge 0 1 1 1 1;ban 2 0 1;depot 2;depot 1;service 9;");
        x.openTour(0);
        x.insert(0, 0, 0);
        Due.is("3: another text", Due.loaded(x, "network 4 3;edge 0 2 8 7 0;edge 2 1 4 4 2;depot 3;"), 2);
        Due.is("3: nodes", x.nodeCount(), 4);
        Due.is("3: edges", x.edgeCount(), 2);
        Due.is("3: depots", x.depotCount(), 1);
        Due.is("3: no tours", x.tourCount(), 0);
        Due.is("3: no costs", x.totalCost(), 0);
        Due.is("3: unserved", x.unserved(), 1);
        Due.is("3: odd nodes", x.oddNodes(), 6);
        Due.is("3: nothing is built", x.build(), 0);
        Due.is("3: a tour", x.openTour(0), 0);
        Due.is("3: it has no arcs", x.length(0), 0);
        Due.is("3: nothing served", x.tourOf(0), -1);
        Due.is("3: service", x.serviceCost(0), 8);
        Due.yes("3: no ban", x.mayFollow(0, 2));
        Due.is("3: deadhead", x.deadhead(0, 3), 4);
        Due.is("3: distance", x.distance(1, 0), 11);
        Due.is("3: another service", Due.loaded(x, "network 2 9;service cost*cost;edge 0 1 7 8 1;"), 1);
        Due.is("3: its value", x.serviceCost(0), 49);
        Due.is("3: a service behind which the text is wrong", Due.loaded(x, HEAD + "service 5+5"), WindyTours.SYNTAX_ERROR);
        Due.is("3: yet another service", Due.loaded(x, "network 2 9;service cost+1;edge 0 1 7 8 1;"), 1);
        Due.is("3: its value", x.serviceCost(1), 9);
        Due.is("3: no service", Due.loaded(x, "network 2 9;edge 0 1 7 8 1;"), 1);
        Due.is("3: the cost", x.serviceCost(1), 8);
        Due.is("3: a network without edges", Due.loaded(x, HEAD), 0);
        Due.noIndex("3: no edges", () -> x.edge(0, 0));
        Due.is("3: no way", x.distance(0, 1), -1);
    }
}
