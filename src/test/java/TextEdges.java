import java.util.Set;

/** Sentences about the setup text, and those of promises 1 to 4. */
final class TextEdges {
    private static final String HEAD = "network 2 1;";
    private static final String EDGE = "edge 0 1 1 1 1;";
    private static final String PATH = "network 3 1;edge 0 1 1 1 1;edge 1 2 1 1 1;";
    private static final int SPACES = 0x20202020;

    private TextEdges() {
    }

    static void run() {
        numbers();
        counts();
        tokens();
        sums();
        errors();
        newObjects();
        appending();
        loading();
        offsets();
    }

    private static void said(String words, Runnable test) {
        Sentence.holds(Sentence.DESCRIPTION, words, test);
    }

    /** The text must be right if the number stands in the range, and else wrong at the number, whose place is the sign !. */
    private static void range(String marked, int low, int high) {
        String before = marked.substring(0, marked.indexOf('!'));
        String behind = marked.substring(marked.indexOf('!') + 1);
        for (int number : new int[] {low, high}) {
            Due.no("an error with " + number, Due.loaded(new WindyTours(), before + "000" + number + behind) < 0);
        }
        for (String number : new String[] {low == 0 ? "4294967296" : "" + (low - 1), "" + (high + 1), "0" + (high + 1),
            "" + (4294967296L + low), "18446744073709551616", "" + Integer.MAX_VALUE}) {
            Due.wrong(before + number + behind, WindyTours.OUT_OF_RANGE, before.length());
        }
    }

    private static void numbers() {
        said("There are 2 to 8 nodes and at most 14 edges.", () -> {
            range("network ! 1;", 2, 8);
            Due.right(HEAD + EDGE.repeat(13), 13);
            Due.right(HEAD + EDGE.repeat(14), 14);
            Due.wrongAt(HEAD + EDGE.repeat(14) + "!" + EDGE, WindyTours.TOO_MANY);
        });
        said("An edge connects two different nodes a and b; it has a cost from a to b, a cost from b to a (1 to 99 each)"
                + " and a demand (0 to 99).", () -> {
            Due.wrongAt(HEAD + "edge 0 !0 1 1 1;", WindyTours.OUT_OF_RANGE);
            Due.wrongAt("network 8 1;edge 7 !7 1 1 1;", WindyTours.OUT_OF_RANGE);
            Due.right(HEAD + "edge 1 0 1 1 1;", 1);
            range(HEAD + "edge 0 1 ! 1 1;", 1, 99);
            range(HEAD + "edge 0 1 1 ! 1;", 1, 99);
            range(HEAD + "edge 0 1 1 1 !;", 0, 99);
        });
        said("it is at most the capacity (1 to 999)", () -> range("network 2 !;", 1, 999));
        said("Nodes have the numbers 0 to n - 1.", () -> {
            for (int n = 2; n <= 8; n++) {
                String head = "network " + n + " 1;";
                int last = n - 1;
                Due.right(head + "edge " + last + " 0 1 1 1;edge 0 " + last + " 1 1 1;ban " + last + " 0 1;ban 0 1 0;", 2);
                Due.wrongAt(head + "edge !" + n + " 0 1 1 1;", WindyTours.OUT_OF_RANGE);
                Due.wrongAt(head + "edge 0 !" + n + " 1 1 1;", WindyTours.OUT_OF_RANGE);
                range(head + "depot !;", 0, last);
                Due.wrongAt(head + "edge 0 " + last + " 1 1 1;ban !" + n + " 0 0;", WindyTours.OUT_OF_RANGE);
            }
        });
        said("Those of ban are the node and the two edges, which must be declared before.", () -> {
            Due.wrongAt(HEAD + "ban 0 !0 0;" + EDGE, WindyTours.OUT_OF_RANGE);
            range(HEAD + EDGE + "ban ! 0 0;", 0, 1);
            range(HEAD + EDGE + "ban 0 ! 0;" + EDGE, 0, 0);
            range(HEAD + EDGE + "ban 0 0 !;" + EDGE, 0, 0);
            range(HEAD + EDGE.repeat(14) + "ban 1 ! 0;", 0, 13);
            range(HEAD + EDGE.repeat(14) + "ban 1 0 !;", 0, 13);
            Due.wrongAt(HEAD + EDGE + "ban 0 0!;", WindyTours.SYNTAX_ERROR);
            Due.wrongAt(HEAD + EDGE + "ban 0 0 0 !0;", WindyTours.SYNTAX_ERROR);
        });
        said("which both end at the node", () -> {
            Due.right(PATH + "ban 1 0 1;ban 1 1 0;ban 0 0 0;ban 2 1 1;", 2);
            Due.wrongAt(PATH + "ban 0 !1 0;", WindyTours.OUT_OF_RANGE);
            Due.wrongAt(PATH + "ban 0 0 !1;", WindyTours.OUT_OF_RANGE);
            Due.wrongAt(PATH + "ban 2 !0 1;", WindyTours.OUT_OF_RANGE);
            Due.wrongAt(PATH + "ban 2 1 !0;", WindyTours.OUT_OF_RANGE);
        });
        said("The numbers of network are the number of nodes and the capacity.", () -> {
            Due.wrongAt("network!;", WindyTours.SYNTAX_ERROR);
            Due.wrongAt("network 2!;", WindyTours.SYNTAX_ERROR);
            Due.wrongAt("network 2 1 !1;", WindyTours.SYNTAX_ERROR);
            Due.is("the nodes stand first", Due.right("network 3 4;", 0).nodeCount(), 3);
        });
        said("Those of edge are a, b, the cost from a to b, the cost from b to a, and the demand.", () -> {
            Due.wrongAt(HEAD + "edge 0 1 1 1!;", WindyTours.SYNTAX_ERROR);
            Due.wrongAt(HEAD + "edge 0 1 1 1 1 !1;", WindyTours.SYNTAX_ERROR);
            WindyTours x = Due.right("network 5 1;edge 4 3 99 1 0;", 1);
            for (int what = 0; what < 5; what++) {
                Due.is("number " + what, x.edge(0, what), new int[] {4, 3, 99, 1, 0}[what]);
            }
        });
        said("The number of depot is its node.", () -> {
            Due.wrongAt(HEAD + "depot!;", WindyTours.SYNTAX_ERROR);
            Due.wrongAt(HEAD + "depot 1 !1;", WindyTours.SYNTAX_ERROR);
        });
    }

    private static void counts() {
        said("There are at most 3 depots, each of which is at a node", () -> {
            Due.is("depots", Due.right(HEAD + "depot 0;depot 0;depot 0;", 0).depotCount(), 3);
            Due.wrongAt(HEAD + "depot 0;depot 0;depot 0;!depot 0;", WindyTours.TOO_MANY);
            Due.wrongAt(HEAD + "depot !2;", WindyTours.OUT_OF_RANGE);
        });
        said("The statement service may occur once.", () -> {
            Due.right(HEAD, 0);
            Due.right(HEAD + "service 1;", 0);
            Due.wrongAt(HEAD + "service 1;!service 1;", WindyTours.SYNTAX_ERROR);
            Due.wrongAt(HEAD + "service 1;" + EDGE + "depot 0; !service 1;", WindyTours.SYNTAX_ERROR);
            WindyTours x = new WindyTours();
            Due.is("once in a text with an error", Due.loaded(x, HEAD + "service 1;x"), WindyTours.SYNTAX_ERROR);
            Due.is("once in the next text", Due.loaded(x, HEAD + "service 1;"), 0);
            Due.is("and once in the next one", Due.loaded(x, HEAD + "service 1;"), 0);
        });
        said("The same ban may be told again.", () -> {
            WindyTours x = Due.right(HEAD + EDGE + "ban 0 0 0;".repeat(60), 1);
            Due.no("it is banned", x.mayFollow(1, 0));
            Due.yes("the other turn is not", x.mayFollow(0, 1));
            Due.no("told twice", Due.right(HEAD + EDGE + "ban 0 0 0;ban 0 0 0;", 1).mayFollow(1, 0));
        });
        said("The setup text is read from an input buffer of at most 700 bytes.", () -> {
            String text = HEAD + EDGE + " ".repeat(700 - 42) + EDGE;
            Due.is("bytes", text.length(), 700);
            Due.right(text, 2);
            Due.wrongAt(HEAD + " ".repeat(687) + "!?", WindyTours.SYNTAX_ERROR);
            Due.wrongAt(text.substring(0, 699) + " !", WindyTours.SYNTAX_ERROR);
        });
    }

    private static void tokens() {
        said("A number is a run of decimal digits, of any length (leading zeros do not matter); a word is a run of the letters a to z.", () -> {
            Due.is("600 zeros", Due.right("network " + "0".repeat(600) + "7 1;", 0).nodeCount(), 7);
            Due.wrongAt("network !" + "9".repeat(600) + " 1;", WindyTours.OUT_OF_RANGE);
            Due.wrongAt("network !" + "0".repeat(600) + " 1;", WindyTours.OUT_OF_RANGE);
            Due.wrongAt("network !1" + "0".repeat(640) + "2 1;", WindyTours.OUT_OF_RANGE);
            Due.is("zeros alone", Due.right(HEAD + "edge 000 001 01 099 0000;", 1).edge(0, 4), 0);
            // the neighbours of the digits and of the letters
            for (String sign : new String[] {"/", ":", "`", "{", "@", "E", "[", "\u00b3"}) {
                Due.wrongAt(HEAD + "!" + sign + "dge 0 1 1 1 1;", WindyTours.SYNTAX_ERROR);
                Due.wrongAt("network 2 1!" + sign + ";", WindyTours.SYNTAX_ERROR);
            }
            Due.wrongAt("!networ", WindyTours.SYNTAX_ERROR);
            Due.wrongAt(HEAD + "!aedge 0 1 1 1 1;", WindyTours.SYNTAX_ERROR);
            Due.wrongAt(HEAD + "!edgez 0 1 1 1 1;", WindyTours.SYNTAX_ERROR);
        });
        said("Each run is as long as possible.", () -> {
            Due.wrongAt("network !21;", WindyTours.OUT_OF_RANGE);
            Due.wrongAt(HEAD + "edge 01 !1 1 1 1;", WindyTours.OUT_OF_RANGE);
            Due.wrongAt(HEAD + "edge 0 1 !111;", WindyTours.OUT_OF_RANGE);
            Due.wrongAt("!networknetwork 2 1;", WindyTours.SYNTAX_ERROR);
            Due.wrongAt(HEAD + "service !costdemand;", WindyTours.SYNTAX_ERROR);
            Due.wrongAt(HEAD + "!servicecost;", WindyTours.SYNTAX_ERROR);
        });
        said("Spaces (byte 32) may precede any token and may follow the last one; a word and a number side by side need none between them.", () -> {
            Due.right("network2 1;edge0 1 1 1 1;ban0 0 0;depot0;service2*cost+(demand/1)-3;", 1);
            Due.right("  network  2  1  ;  edge  0  1  1  1  1  ;  ban  0  0  0  ;  depot  0  ;"
                    + "  service  2  *  cost  +  (  demand  /  1  )  -  3  ;  ", 1);
            Due.wrongAt(HEAD + "service 2!cost;", WindyTours.SYNTAX_ERROR);
            Due.wrongAt(HEAD + "service cost!2;", WindyTours.SYNTAX_ERROR);
            Due.wrongAt(" ".repeat(40) + "!", WindyTours.SYNTAX_ERROR);
        });
        said("No other byte separates tokens.", () -> {
            for (int sign = 0; sign < 256; sign++) {
                boolean isRun = sign >= '0' && sign <= '9' || sign >= 'a' && sign <= 'z';
                if (sign != ' ' && sign != '!' && !isRun) {
                    Due.wrongAt("network 2!" + (char) sign + "1;", WindyTours.SYNTAX_ERROR);
                    Due.wrongAt(HEAD + "edge 0!" + (char) sign + "1 1 1 1;", WindyTours.SYNTAX_ERROR);
                    Due.wrongAt("network!" + (char) sign + "2 1;", WindyTours.SYNTAX_ERROR);
                }
                if (sign != ' ' && sign != '!') {
                    Due.wrongAt(HEAD + "!" + (char) sign + ";", WindyTours.SYNTAX_ERROR);
                }
            }
        });
    }

    private static void sums() {
        said("A number as a factor is 0 to 9999.", () -> {
            range(HEAD + "service !;", 0, 9999);
            range(HEAD + "service 1+!;", 0, 9999);
            range(HEAD + "service 1*((((!))));", 0, 9999);
        });
        said("Parentheses nest at most 4 deep.", () -> {
            Due.right(HEAD + "service ((((1))));", 0);
            Due.right(HEAD + "service ((((1))))*((((2)+(3))+(4)))-(((5+(6))));", 0);
            Due.wrongAt(HEAD + "service ((((!(1)))));", WindyTours.TOO_DEEP);
            Due.wrongAt(HEAD + "service (((1)+((2)+(!(3)))));", WindyTours.TOO_DEEP);
            Due.wrongAt(HEAD + "service " + "(".repeat(4) + "!" + "(".repeat(600), WindyTours.TOO_DEEP);
        });
        said("sum       = term { ( \"+\" | \"-\" ) term }", () -> {
            String text = "network 2 1;edge 0 1 1 1 1;service 1" + "+1".repeat(331) + ";";
            Due.is("as long as a text can be", text.length(), 699);
            Due.is("332 terms", Due.right(text, 1).serviceCost(0), 332);
            Due.wrongAt(HEAD + "service !+1;", WindyTours.SYNTAX_ERROR);
            Due.wrongAt(HEAD + "service 1-!;", WindyTours.SYNTAX_ERROR);
            Due.wrongAt(HEAD + "service 1+!-1;", WindyTours.SYNTAX_ERROR);
        });
        said("term      = factor { ( \"*\" | \"/\" ) factor }", () -> {
            String text = "network 2 1;edge 0 1 1 1 1;service 7" + "*1".repeat(331) + ";";
            Due.is("332 factors", Due.right(text, 1).serviceCost(0), 7);
            Due.wrongAt(HEAD + "service !*1;", WindyTours.SYNTAX_ERROR);
            Due.wrongAt(HEAD + "service 1/!;", WindyTours.SYNTAX_ERROR);
            Due.wrongAt(HEAD + "service 1*!/1;", WindyTours.SYNTAX_ERROR);
        });
        said("factor    = number | \"cost\" | \"demand\" | \"(\" sum \")\"", () -> {
            Due.wrongAt(HEAD + "service (!);", WindyTours.SYNTAX_ERROR);
            Due.wrongAt(HEAD + "service (1!;", WindyTours.SYNTAX_ERROR);
            Due.wrongAt(HEAD + "service 1!);", WindyTours.SYNTAX_ERROR);
            Due.wrongAt(HEAD + "service !service;", WindyTours.SYNTAX_ERROR);
            Due.wrongAt(HEAD + "service !-1;", WindyTours.SYNTAX_ERROR);
        });
        said("setup     = \"network\" number number \";\" { statement \";\" }", () -> {
            Due.right(HEAD, 0);
            Due.wrongAt(HEAD + "!;", WindyTours.SYNTAX_ERROR);
            Due.wrongAt(HEAD + EDGE + "!;", WindyTours.SYNTAX_ERROR);
            Due.wrongAt(HEAD + "edge 0 1 1 1 1!", WindyTours.SYNTAX_ERROR);
            Due.wrongAt(HEAD + "!" + HEAD, WindyTours.SYNTAX_ERROR);
            Due.wrongAt("!" + EDGE + HEAD, WindyTours.SYNTAX_ERROR);
        });
    }

    private static void errors() {
        said("The first error in the text is the one with the smallest offset.", () -> {
            Due.wrongAt("network !9 0;edge 5 5 ?", WindyTours.OUT_OF_RANGE);
            Due.wrongAt("network 2 !0;" + EDGE.repeat(15), WindyTours.OUT_OF_RANGE);
            Due.wrongAt(HEAD + EDGE.repeat(14) + "!edge 9 9 0 0 100 ?", WindyTours.TOO_MANY);
            Due.wrongAt(HEAD + EDGE.repeat(13) + "edge 0 1 1 1 !100;" + EDGE, WindyTours.OUT_OF_RANGE);
            Due.wrongAt(HEAD + "depot 0;depot 0;depot 0;!depot 9;", WindyTours.TOO_MANY);
            Due.wrongAt(HEAD + "depot 0;depot 0;depot !9;depot 0;", WindyTours.OUT_OF_RANGE);
            Due.wrongAt(HEAD + "service !10000+(((((1)))))", WindyTours.OUT_OF_RANGE);
            Due.wrongAt(HEAD + "service ((((!(10000)))))", WindyTours.TOO_DEEP);
            Due.wrongAt(HEAD + "service 1 !? (((((1)))))", WindyTours.SYNTAX_ERROR);
            Due.wrongAt(HEAD + "service ((((!(", WindyTours.TOO_DEEP);
        });
        said("If several kinds of error have the same offset, the first one in this list counts", () -> {
            Due.wrongAt("network 2 1 !5000;", WindyTours.SYNTAX_ERROR);
            Due.wrongAt(HEAD + "!5000;", WindyTours.SYNTAX_ERROR);
            Due.wrongAt(HEAD + "service 1 !10000;", WindyTours.SYNTAX_ERROR);
            Due.wrongAt(HEAD + "service ((((1!(2)))));", WindyTours.SYNTAX_ERROR);
            Due.wrongAt(HEAD + "service ((((cost!(", WindyTours.SYNTAX_ERROR);
            Due.wrongAt(HEAD + EDGE.repeat(14) + "ban 0 !edge 0 1 1 1 1;", WindyTours.SYNTAX_ERROR);
            Due.wrongAt(HEAD + "depot 0;depot 0;depot !depot 0;", WindyTours.SYNTAX_ERROR);
        });
        said("SYNTAX_ERROR: a token or byte that the grammar does not allow here, at its first byte; the end of the text, at its"
                + " length, if the text ends too early; a second service, at its first letter.", TextEdges::eachCut);
        said("OUT_OF_RANGE: a number outside its range, at its first digit; this includes b if it is the same as a, and an edge"
                + " of a ban that is not declared or does not end at the node.", () -> {
            Due.wrongAt("network   !0009 1;", WindyTours.OUT_OF_RANGE);
            Due.wrongAt("network!9 1;", WindyTours.OUT_OF_RANGE);
            Due.wrongAt(HEAD + "edge 1   !001 1 1 1;", WindyTours.OUT_OF_RANGE);
            Due.wrongAt(HEAD + EDGE + "ban 0   !001 0;", WindyTours.OUT_OF_RANGE);
            Due.wrongAt(PATH + "ban 0   !001 0;", WindyTours.OUT_OF_RANGE);
            Due.wrongAt(PATH + "ban 2 1   !000;", WindyTours.OUT_OF_RANGE);
            Due.wrongAt("network 3 1;" + EDGE + "ban !3 0 0;", WindyTours.OUT_OF_RANGE);
            Due.wrongAt("network 3 1;" + EDGE + "ban 2 !0 0;", WindyTours.OUT_OF_RANGE);
        });
        said("TOO_MANY: an edge or depot beyond the maximum number, at the first letter of its statement.", () -> {
            Due.wrongAt(HEAD + EDGE.repeat(14) + "   !edge   0 1 1 1 1;", WindyTours.TOO_MANY);
            Due.wrongAt(HEAD + "depot 0;".repeat(3) + "   !depot   0;", WindyTours.TOO_MANY);
            Due.right(HEAD + EDGE.repeat(14) + "depot 0;".repeat(3) + "ban 0 13 0;service 1;", 14);
        });
        said("TOO_DEEP: an opening parenthesis inside 4 others, at that parenthesis.", () -> {
            Due.wrongAt(HEAD + "service  (  (  (  (  !(  1", WindyTours.TOO_DEEP);
            Due.wrongAt(HEAD + "service ((((1)+(2)))+(((!(3)))));", WindyTours.TOO_DEEP);
        });
        said("- `SYNTAX_ERROR = -2`: Error code of load: the text does not follow the grammar.",
                () -> Due.is("code", Due.loaded(new WindyTours(), "x"), -2));
        said("- `OUT_OF_RANGE = -3`: Error code of load: a number is not allowed.",
                () -> Due.is("code", Due.loaded(new WindyTours(), "network 9"), -3));
        said("- `TOO_MANY = -4`: Error code of load: too many edges or depots.",
                () -> Due.is("code", Due.loaded(new WindyTours(), HEAD + EDGE.repeat(15)), -4));
        said("- `TOO_DEEP = -5`: Error code of load: parentheses are nested too deeply.",
                () -> Due.is("code", Due.loaded(new WindyTours(), HEAD + "service ((((("), -5));
    }

    /** A right text is cut behind each of its bytes; it stays right where a statement ends. */
    private static void eachCut() {
        String text = "network 3 9; edge 0 1 1 1 1;ban0 0 0 ;depot 2;service ( cost+1)*demand-4;";
        Set<String> words = Set.of("network", "edge", "ban", "depot", "service", "cost", "demand");
        for (int length = 0; length <= text.length(); length++) {
            WindyTours x = new WindyTours();
            Due.appended(x, text);
            String cut = text.substring(0, length);
            String word = cut.substring(cut.replaceFirst("[a-z]+$", "").length());
            boolean isRight = cut.trim().endsWith(";");
            int code = x.load(length);
            Due.is("code for '" + cut + "'", code, isRight ? cut.contains("1;") ? 1 : 0 : WindyTours.SYNTAX_ERROR);
            Due.is("offset for '" + cut + "'", x.errorOffset(),
                    isRight ? -1 : word.isEmpty() || words.contains(word) ? length : length - word.length());
        }
        Due.wrongAt(HEAD + "service 1; !service", WindyTours.SYNTAX_ERROR);
        Due.wrongAt("network 2 1   !", WindyTours.SYNTAX_ERROR);
    }

    private static void newObjects() {
        Sentence.holds(1, "Creates an object without a network, with an empty input buffer.", () -> {
            WindyTours x = new WindyTours();
            Due.is("nodes, edges, depots, tours", x.nodeCount() + x.edgeCount() + x.depotCount() + x.tourCount(), 0);
            Due.noArgument("load(1)", () -> x.load(1));
            Due.is("the first append", x.append(SPACES, SPACES, SPACES, SPACES, SPACES), 20);
            Due.noArgument("load(21)", () -> x.load(21));
            Due.is("the first load", x.load(20), WindyTours.SYNTAX_ERROR);
            Due.is("nothing to undo", new WindyTours().undo(), -1);
        });
    }

    private static void appending() {
        Sentence.holds(2, "Appends 20 bytes to the input buffer: the 4 bytes of each argument, the most significant byte first.", () -> {
            for (int place = 0; place < 20; place++) {
                WindyTours x = new WindyTours();
                int[] words = {SPACES, SPACES, SPACES, SPACES, SPACES};
                // a byte that stands alone, with the highest bit of its word where it is the first one
                words[place / 4] ^= (0x20 ^ 0x80) << 24 - place % 4 * 8;
                Due.is("append", x.append(words[0], words[1], words[2], words[3], words[4]), 20);
                Due.is("load", x.load(20), WindyTours.SYNTAX_ERROR);
                Due.is("the place of the byte", x.errorOffset(), place);
            }
            WindyTours y = new WindyTours();
            Due.is("all bits", y.append(-1, -1, -1, -1, -1), 20);
            Due.is("load", y.load(20), WindyTours.SYNTAX_ERROR);
            Due.is("offset", y.errorOffset(), 0);
        });
        Sentence.holds(2, "Returns the new length of the buffer; -1 if it would exceed 700 bytes, and the buffer is unchanged then.", () -> {
            String text = HEAD + EDGE + " ".repeat(658) + EDGE;
            WindyTours x = new WindyTours();
            for (int length = 20; length <= 680; length += 20) {
                Due.is("length", Due.appended(x, text.substring(length - 20, length)), length);
            }
            Due.is("680 and 20", Due.appended(x, text.substring(680)), 700);
            Due.is("700 and 20", x.append(0, 0, 0, 0, 0), -1);
            Due.is("again", x.append(0, 0, 0, 0, 0), -1);
            Due.noArgument("load(701)", () -> x.load(701));
            Due.is("the text stands as it was", x.load(700), 2);
            Due.is("the buffer takes bytes again", x.append(0, 0, 0, 0, 0), 20);
        });
    }

    private static void loading() {
        Sentence.holds(3, "Reads the first bytes of the input buffer as a setup text and replaces all data by it.", () -> {
            WindyTours x = new WindyTours();
            Due.appended(x, HEAD + EDGE + "?");
            Due.is("without the last bytes", x.load(HEAD.length()), 0);
            Due.is("no edges", x.edgeCount(), 0);
            Due.appended(x, HEAD + EDGE + "?");
            Due.is("without the last byte", x.load(HEAD.length() + EDGE.length()), 1);
            Due.is("fewer of all", Due.loaded(x, "network 3 1;"), 0);
            Due.is("edges and depots", x.edgeCount() + x.depotCount(), 0);
            Due.is("the most of all", Due.loaded(x, NetworkEdges.full()), 14);
            Due.is("fewer of all", Due.loaded(x, HEAD.replace("1;", "99;") + EDGE + EDGE + "depot 0;"), 2);
            Due.is("the edges that are gone have no demand", x.unserved(), 2);
            Due.is("nor an end", x.oddNodes(), 0);
            x.openTour(0);
            Due.is("nor an insertion", x.build(), 2);
            Due.is("nor a best change", x.improve(10), 0);
            Due.is("arcs", x.length(0), 2);
            Due.noIndex("nor an index", () -> x.tourOf(2));
        });
        Sentence.holds(3, "There are no tours then.", () -> {
            WindyTours x = Due.with(HEAD + EDGE + "depot 0;");
            x.openTour(0);
            x.build();
            Due.is("the same text again", Due.loaded(x, HEAD + EDGE + "depot 0;"), 1);
            Due.is("tours", x.tourCount(), 0);
            Due.is("served by", x.tourOf(0), -1);
            Due.is("total", x.totalCost(), 0);
            Due.is("the first tour", x.openTour(0), 0);
            Due.is("it is empty", x.length(0), 0);
        });
        Sentence.holds(3, "The input buffer is empty afterwards, also if the text has an error.", () -> {
            for (int length : new int[] {0, 5, 12, 27, 40}) {
                WindyTours x = new WindyTours();
                Due.appended(x, HEAD + EDGE + "?");
                x.load(length);
                Due.noArgument("load(1) behind load(" + length + ")", () -> x.load(1));
                Due.is("append behind load(" + length + ")", x.append(0, 0, 0, 0, 0), 20);
            }
            WindyTours y = new WindyTours();
            Due.is("fill", Due.appended(y, " ".repeat(700)), 700);
            Due.is("700 spaces", y.load(700), WindyTours.SYNTAX_ERROR);
            Due.is("fill again", Due.appended(y, " ".repeat(700)), 700);
        });
        Sentence.holds(3, "An error leaves all other data unchanged.", () -> {
            WindyTours x = Due.with("network 3 7;edge 0 2 5 6 1;edge 1 2 3 3 1;ban 2 0 1;service cost+1;depot 2;");
            x.openTour(0);
            x.insert(0, 0, 0);
            String before = Shot.of(x);
            for (String text : new String[] {"", "?", "network 4 9", "network 4 9;edge 0 3 9 9 9;depot 3;service 5;ban 0 0 0;edge 9",
                "network 4 9;edge 0 3 9 9 9;edge 0 3 9 9 9;service ((((("}) {
                Due.yes("an error: " + text, Due.loaded(x, text) < 0);
                Due.yes("the data behind: " + text, Shot.of(x).equals(before));
            }
            Due.is("the changes behind", x.undo(), 2);
        });
        Sentence.holds(3, "An empty text has a SYNTAX_ERROR.", () -> {
            WindyTours x = new WindyTours();
            Due.is("an empty buffer", x.load(0), WindyTours.SYNTAX_ERROR);
            Due.is("offset", x.errorOffset(), 0);
            Due.appended(x, HEAD);
            Due.is("no bytes of a buffer", x.load(0), WindyTours.SYNTAX_ERROR);
            Due.is("offset", x.errorOffset(), 0);
        });
        Sentence.holds(3, "Returns the number of edges; or the error code of the first error.", () -> {
            Due.is("none", Due.loaded(new WindyTours(), HEAD), 0);
            Due.is("one", Due.loaded(new WindyTours(), HEAD + EDGE), 1);
            Due.is("as many as can be", Due.loaded(new WindyTours(), HEAD + EDGE.repeat(14)), 14);
            Due.is("one more", Due.loaded(new WindyTours(), HEAD + EDGE.repeat(15)), -4);
        });
        Sentence.holds(3, "Throws `IllegalArgumentException` if length is negative or greater than the length of the buffer;"
                + " the buffer is unchanged then", () -> {
            WindyTours x = new WindyTours();
            Due.noArgument("1 of 0", () -> x.load(1));
            Due.appended(x, HEAD);
            for (int length : new int[] {-1, 21, 700, 701, Integer.MIN_VALUE, Integer.MAX_VALUE}) {
                Due.noArgument("load(" + length + ") of 20", () -> x.load(length));
            }
            Due.is("the text stands", x.load(12), 0);
            Due.appended(x, HEAD + "edge 0 1 1 1 1; " + " ".repeat(12));
            Due.is("all bytes of 40", x.load(40), 1);
        });
    }

    private static void offsets() {
        Sentence.holds(4, "Returns the offset of the error found by the latest call of load that did not throw; -1 if it found none"
                + " or if there was no such call.", () -> {
            WindyTours x = new WindyTours();
            Due.is("no call", x.errorOffset(), -1);
            Due.noArgument("load(1)", () -> x.load(1));
            Due.is("a call that threw alone", x.errorOffset(), -1);
            x.load(0);
            Due.is("the smallest offset", x.errorOffset(), 0);
            Due.loaded(x, " ".repeat(700));
            Due.is("the greatest offset", x.errorOffset(), 700);
            Due.noArgument("load(1)", () -> x.load(1));
            Due.is("a call that threw does not count", x.errorOffset(), 700);
            Due.loaded(x, HEAD);
            Due.is("it found none", x.errorOffset(), -1);
            Due.noArgument("load(-1)", () -> x.load(-1));
            Due.is("a call that threw does not count", x.errorOffset(), -1);
            Due.loaded(x, HEAD + "?");
            Due.is("the latest one", x.errorOffset(), 12);
        });
    }
}
