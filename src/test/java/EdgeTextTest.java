/** The sentences under "The text" and of promises 18 to 22 that name an edge: a test for each. */
public final class EdgeTextTest {
    private static final int BAD_INDEX = GradeGraph.BAD_INDEX, BAD_VALUE = GradeGraph.BAD_VALUE;
    private static final int NOT_POSSIBLE = GradeGraph.NOT_POSSIBLE, FULL = GradeGraph.FULL, NONE = GradeGraph.NONE;
    private static final int SOURCE = GradeGraph.SOURCE, GAIN = GradeGraph.GAIN, SHIFT = GradeGraph.SHIFT;
    private static final int INVERT = GradeGraph.INVERT, BLUR = GradeGraph.BLUR, KEY = GradeGraph.KEY, BLEND = GradeGraph.BLEND;
    /** Twelve nodes in 80 bytes. */
    private static final String LONGEST = "b(k(s(100),0,100,200,10),b(s(200),s(300),s(400)),t(t(l(i(s(500)),1),-100),-160))";
    /** Texts without a fault if there is a node. */
    private static final String[] RIGHT = {
        "s(0)", "s(999)", "n(0)", "g(n(0),64)", "t(s(5),0)", "t(s(5),255)", "t(n(0),-255)", "t(n(0),-1)", "i(s(1))", "l(s(2),3)",
        "k(n(0),2,255,255,99)", "b(n(0),s(9),i(n(0)))", "i(i(i(i(i(s(10))))))", "b(b(s(1),n(0),s(3)),g(s(4),10),k(s(5),0,0,0,0))", LONGEST,
    };
    private static final Checks CHECKS = new Checks();

    public static void main(String[] arguments) {
        atMost80Bytes();
        eachForm();
        eachClosed();
        expressionsWithin();
        minusAheadOfAmountsOnly();
        zeroBehindAMinus();
        noBlanks();
        oneToThreeDigits();
        firstDigitNot0();
        nodeThatThereIsAlready();
        firstByteThatDoesNotFollow();
        endsTooEarly();
        outOfRangeAtItsFirstDigit();
        outOfRangeBehindAMinus();
        numberOfANodeThatThereIsNot();
        digitBehindThree();
        faultDepth();
        nestedTooDeep();
        promise18Letters();
        promise18Returns();
        promise19();
        promise20();
        promise21();
        promise22Order();
        promise22Connected();
        promise22StandsFor();
        promise22NoneAdded();
        promise22NoPicture();
        promise22TextStays();
        promise22Fault();
        promise22Full();
        CHECKS.finish("EdgeTextTest");
    }

    private static void due(String call, long got, long want) {
        CHECKS.due(call, got, want);
    }

    private static GradeGraph sources(int number) {
        GradeGraph graph = new GradeGraph();
        for (int node = 0; node < number; node++) {
            graph.addNode(SOURCE);
        }
        return graph;
    }

    private static void fault(int nodes, String text, int position) {
        GradeGraph graph = sources(nodes);
        Checks.write(graph, text);
        due("faultPosition() of " + text, graph.faultPosition(), position);
    }

    private static void fault(String text, int position) {
        fault(1, text, position);
    }

    private static void right(String text) {
        fault(1, text, NONE);
    }

    private static void atMost80Bytes() {
        CHECKS.sentence("The text has at most 80 bytes.");
        due("its length", LONGEST.length(), 80);
        right(LONGEST);
        GradeGraph graph = new GradeGraph();
        Checks.write(graph, LONGEST);
        due("one more", graph.append(')'), FULL);
        due("it has no fault", graph.faultPosition(), NONE);
        due("it is built", graph.build(), 11);
        due("its first node", graph.parameter(0, 0), 100);
        due("the last amount", graph.parameter(10, 0), -160);
        due("its last input", graph.input(11, 2), 10);
        due("its length then", graph.clearText(), 80);
        fault(LONGEST.substring(0, 79) + "x", 79);
        fault(LONGEST.substring(0, 79) + "0", 79);
        fault(LONGEST.substring(0, 78) + "0)", 78);
        Checks.write(graph, "i(n(0))");
        due("a short text behind a long one", graph.faultPosition(), NONE);
    }

    private static void eachForm() {
        CHECKS.sentence("An expression is one of: s( g( t( i( l( k( b( n(");
        for (String text : RIGHT) {
            right(text);
        }
        for (int letter = 0; letter < 128; letter++) {
            boolean begins = "sgtilkbn".indexOf(letter) >= 0;
            fault((char) letter + "", begins ? 1 : 0);
            fault("i(" + (char) letter, begins ? 3 : 2);
            fault("b(s(1)," + (char) letter, begins ? 8 : 7);
        }
        String[] heads = {"s", "g", "t", "i", "l", "k", "b", "n"};
        for (String head : heads) {
            fault(head + head, 1);
            fault(head + ")", 1);
            fault(head + "[", 1);
            fault(head + "((", 2);
            fault(head + "()", 2);
            fault(head + "(,", 2);
        }
    }

    private static void eachClosed() {
        CHECKS.sentence("each closed by )");
        for (String text : RIGHT) {
            for (int letter = 0; letter < 128; letter++) {
                // a digit may go on with a number that ends in a parenthesis' place
                boolean isDigit = '0' <= letter && letter <= '9';
                if (letter != ')' && !isDigit) {
                    fault(text.substring(0, text.length() - 1) + (char) letter, text.length() - 1);
                }
            }
        }
        fault("s(1))", 4);
        fault("i(s(1)))", 7);
        fault("n(0))", 4);
    }

    private static void expressionsWithin() {
        CHECKS.sentence("g( and an expression, a comma and an amount .. b( and three expressions, separated by commas");
        fault("g(1,1)", 2);
        fault("t(-1,1)", 2);
        fault("i(1)", 2);
        fault("i(i)", 3);
        fault("l(,1)", 2);
        fault("k(0,0,0,0)", 2);
        fault("b(1,1,1)", 2);
        fault("s(s(1))", 2);
        fault("n(n(0))", 2);
        fault("i(n(0),1)", 6);
        fault("g(n(0))", 6);
        fault("g(n(0),)", 7);
        fault("g(n(0);1)", 6);
        fault("g(n(0),n(0))", 7);
        fault("g(n(0),1,1)", 8);
        fault("t(n(0),1,1)", 8);
        fault("l(n(0),1,1)", 8);
        fault("k(n(0),1,1,1)", 12);
        fault("k(n(0),1,1,1,1,1)", 14);
        fault("b(n(0),n(0))", 11);
        fault("b(n(0),n(0),n(0),n(0))", 16);
        fault("b(n(0)n(0),n(0))", 6);
        fault("b(n(0),n(0),)", 12);
        fault("s(1,1)", 3);
    }

    private static void minusAheadOfAmountsOnly() {
        CHECKS.sentence("an amount from 0 to 255, perhaps with a minus sign ahead of it");
        right("t(n(0),-1)");
        right("t(n(0),-255)");
        right("t(n(0),1)");
        fault("t(n(0),--1)", 8);
        fault("t(n(0),1-)", 8);
        fault("t(n(0),+1)", 7);
        fault("t(n(0),-)", 8);
        fault("t(-n(0),1)", 2);
        fault("s(-1)", 2);
        fault("s(-0)", 2);
        fault("g(n(0),-1)", 7);
        fault("l(n(0),-1)", 7);
        fault("k(n(0),-1,0,0,0)", 7);
        fault("k(n(0),0,-1,0,0)", 9);
        fault("k(n(0),0,0,-1,0)", 11);
        fault("k(n(0),0,0,0,-1)", 13);
        fault("n(-0)", 2);
    }

    private static void zeroBehindAMinus() {
        CHECKS.sentence("(behind which a 0 is a fault)");
        fault("t(n(0),-0)", 8);
        fault("t(n(0),-0", 8);
        fault("t(n(0),-00)", 8);
        fault("t(n(0),-01)", 8);
        right("t(n(0),0)");
        right("t(n(0),-10)");
        right("t(n(0),-100)");
    }

    private static void noBlanks() {
        CHECKS.sentence("There are no blanks.");
        for (String text : RIGHT) {
            for (int place = 0; place < text.length(); place++) {
                fault(text.substring(0, place) + " " + text.substring(place + 1), place);
                if (text.length() < 80) {
                    fault(text.substring(0, place) + " " + text.substring(place), place);
                }
            }
            if (text.length() < 80) {
                fault(text + " ", text.length());
            }
        }
    }

    /** A place where a number stands in a text, and the highest one that may stand there. */
    private record Place(String ahead, String behind, int highest) {
        int fault(String digits) {
            GradeGraph graph = sources(1);
            Checks.write(graph, ahead + digits + behind);
            int position = graph.faultPosition();
            return position == NONE ? NONE : position - ahead.length();
        }
    }

    private static final Place[] PLACES = {
        new Place("s(", ")", 999), new Place("g(n(0),", ")", 64), new Place("t(n(0),", ")", 255), new Place("l(n(0),", ")", 3),
        new Place("k(n(0),", ",0,0,0)", 2), new Place("k(n(0),0,", ",0,0)", 255), new Place("k(n(0),0,0,", ",0)", 255),
        new Place("k(n(0),0,0,0,", ")", 99), new Place("n(", ")", 0), new Place("b(n(0),n(", "),n(0))", 0),
    };

    private static void oneToThreeDigits() {
        CHECKS.sentence("Numbers have 1 to 3 digits");
        for (Place place : PLACES) {
            due("no digit behind " + place.ahead, place.fault(""), 0);
            due("the highest number behind " + place.ahead, place.fault("" + place.highest), NONE);
            due("0 behind " + place.ahead, place.fault("0"), NONE);
            due("a letter behind " + place.ahead, place.fault("x"), 0);
            due("the sign ahead of 0", place.fault("/"), 0);
            due("the sign behind 9", place.fault(":"), 0);
        }
        for (int seed = 0; seed < 1000; seed++) {
            due("seed " + seed, PLACES[0].fault("" + seed), NONE);
        }
        due("four digits", PLACES[0].fault("1000"), 3);
    }

    private static void firstDigitNot0() {
        CHECKS.sentence("the first one not 0 unless it is the only one");
        for (Place place : PLACES) {
            due("00 behind " + place.ahead, place.fault("00"), 1);
            due("01 behind " + place.ahead, place.fault("01"), 1);
            due("000 behind " + place.ahead, place.fault("000"), 1);
            due("0999 behind " + place.ahead, place.fault("0999"), 1);
        }
        due("a 0 behind another digit", PLACES[0].fault("100"), NONE);
    }

    private static void nodeThatThereIsAlready() {
        CHECKS.sentence("a node that there is already (not one of those that the text adds)");
        fault(0, "b(s(1),n(0),s(2))", 9);
        fault(1, "b(s(1),n(1),s(2))", 9);
        fault(1, "b(s(1),n(0),s(2))", NONE);
        GradeGraph graph = new GradeGraph();
        Checks.write(graph, "b(s(1),n(2),s(2))");
        for (int nodes = 0; nodes < 4; nodes++) {
            due("with " + nodes, graph.faultPosition(), nodes < 3 ? 9 : NONE);
            graph.addNode(SOURCE);
        }
        due("build()", graph.build(), 6);
        due("the node of the text", graph.input(6, 0), 4);
        due("the node that there was", graph.input(6, 1), 2);
        graph.clear();
        due("without nodes again", graph.faultPosition(), 9);
    }

    private static void firstByteThatDoesNotFollow() {
        CHECKS.sentence("The fault position is the index, counted from 0, of the first byte with which the text does not follow this form");
        for (String text : RIGHT) {
            for (int place = 0; place < text.length(); place++) {
                fault(text.substring(0, place) + "x" + text.substring(place + 1), place);
                fault(text.substring(0, place) + "\0" + text.substring(place + 1), place);
                fault(text.substring(0, place) + (char) 127 + text.substring(place + 1), place);
            }
            for (int letter = 0; letter < 128 && text.length() < 80; letter++) {
                fault(text + (char) letter, text.length());
            }
        }
        fault("b(x,x,x)", 2);
        fault("xx", 0);
    }

    private static void endsTooEarly() {
        CHECKS.sentence("or its length if it ends too early");
        for (String text : RIGHT) {
            for (int length = 0; length < text.length(); length++) {
                fault(text.substring(0, length), length);
            }
        }
    }

    private static void outOfRangeAtItsFirstDigit() {
        CHECKS.sentence("a number, that is, the digits that stand there, but three at most (0 alone, if the first one is 0),"
            + " that is out of its range is a fault at its first digit");
        for (Place place : PLACES) {
            for (int number = 1; number <= 999; number++) {
                if (number > place.highest) {
                    due(number + " behind " + place.ahead, place.fault("" + number), 0);
                }
            }
            if (place.highest < 999) {
                due("999 and more behind " + place.ahead, place.fault("9990"), 0);
                due("one more than the highest", place.fault((place.highest + 1) + "x"), 0);
            }
        }
        fault("g(n(0),65", 7);
        fault("g(n(0),650", 7);
        fault("l(n(0),30)", 7);
        fault("k(n(0),20,0,0,0)", 7);
        fault("k(n(0),0,0,0,990)", 13);
    }

    private static void outOfRangeBehindAMinus() {
        CHECKS.sentence("(behind a minus sign)");
        Place place = new Place("t(n(0),-", ")", 255);
        for (int amount = 1; amount <= 999; amount++) {
            due("-" + amount, place.fault("" + amount), amount <= 255 ? NONE : 0);
        }
        due("-2559", place.fault("2559"), 3);
        due("-2560", place.fault("2560"), 0);
        fault("t(n(0),-256", 8);
    }

    private static void numberOfANodeThatThereIsNot() {
        CHECKS.sentence("and so is the number of a node that there is not");
        for (int nodes = 0; nodes <= 12; nodes++) {
            for (int number = 0; number <= 13; number++) {
                fault(nodes, "n(" + number + ")", number < nodes ? NONE : 2);
                fault(nodes, "i(n(" + number + "))", number < nodes ? NONE : 4);
            }
        }
        fault(12, "n(110)", 2);
        fault(12, "n(1100)", 2);
        fault(12, "n(999)", 2);
        fault(0, "n(00)", 2);
        fault(1, "n(00)", 3);
        fault(12, "n(012)", 3);
    }

    private static void digitBehindThree() {
        CHECKS.sentence("a digit behind three ones is a fault itself, if these are in the range");
        int[] starts = {100, 254, 255, 256, 998, 999};
        for (Place place : PLACES) {
            for (int start : starts) {
                for (int last = 0; last < 10; last++) {
                    due(start + "" + last + " behind " + place.ahead, place.fault(start + "" + last), start <= place.highest ? 3 : 0);
                }
            }
        }
        due("five digits", PLACES[0].fault("12345"), 3);
        fault("s(1000", 5);
    }

    private static void depth(String text, int want) {
        GradeGraph graph = sources(1);
        Checks.write(graph, text);
        due("faultDepth() of " + text, graph.faultDepth(), want);
    }

    private static void faultDepth() {
        CHECKS.sentence("The fault depth is the number of parentheses that are open ahead of the fault position.");
        for (String text : RIGHT) {
            int open = 0;
            for (int place = 0; place < text.length(); place++) {
                depth(text.substring(0, place), open);
                depth(text.substring(0, place) + "x" + text.substring(place + 1), open);
                depth(text.substring(0, place) + "\0", open);
                open += text.charAt(place) == '(' ? 1 : text.charAt(place) == ')' ? -1 : 0;
            }
            depth(text, NONE);
            if (text.length() < 80) {
                depth(text + ")", 0);
                depth(text + "(", 0);
            }
        }
        depth("", 0);
        depth("(", 0);
        depth(")", 0);
        depth("s((", 1);
        depth("s(1((", 1);
        depth("t(n(0),-0)", 1);
        depth("g(n(0),65)", 1);
        depth("i(i(s(1000", 3);
        depth("i(n(1))", 2);
    }

    private static void nestedTooDeep() {
        CHECKS.sentence("An expression within 6 open parentheses is nested too deep: its letter is a fault.");
        right("i(i(i(i(i(s(1))))))");
        right("i(i(i(i(i(n(0))))))");
        String[] texts = {"s(1)", "g(n(0),1)", "t(n(0),1)", "i(n(0))", "l(n(0),1)", "k(n(0),0,0,0,0)", "b(n(0),n(0),n(0))", "n(0)"};
        String[] nests = {"i(i(i(i(i(i(", "b(n(0),n(0),i(i(i(i(i(", "k(g(t(l(i(b(n(0),", "i(i(i(i(i(b(s(1),s(2),"};
        for (String nest : nests) {
            // the letter of the first expression in the last parenthesis is the fault
            int letter = nest.lastIndexOf('(');
            for (int open = 0, place = 0; place < nest.length(); place++) {
                open += nest.charAt(place) == '(' ? 1 : nest.charAt(place) == ')' ? -1 : 0;
                if (open == 6) {
                    letter = place + 1;
                    break;
                }
            }
            for (String text : texts) {
                fault(nest + text, letter);
                depth(nest + text, 6);
            }
        }
        for (String text : texts) {
            // within 5 an expression is right, but the one within it is not
            fault("i(i(i(i(i(" + text, text.charAt(1) == '(' && text.indexOf('(', 2) > 0 ? 12 : 10 + text.length());
        }
        fault("i(i(i(i(i(i(", 12);
        fault("i(i(i(i(i(i(1", 12);
        right("b(i(i(i(i(n(0))))),i(i(i(i(n(0))))),i(i(i(i(n(0))))))");
    }

    private static void promise18Letters() {
        CHECKS.sentence("letter: 0 to 127");
        GradeGraph graph = new GradeGraph();
        due("append(-1)", graph.append(-1), BAD_VALUE);
        due("append(128)", graph.append(128), BAD_VALUE);
        due("append(MIN)", graph.append(Integer.MIN_VALUE), BAD_VALUE);
        due("append(MAX)", graph.append(Integer.MAX_VALUE), BAD_VALUE);
        due("append('s' + 256)", graph.append('s' + 256), BAD_VALUE);
        due("append(0)", graph.append(0), 1);
        due("append(127)", graph.append(127), 2);
        due("the text has both", graph.clearText(), 2);
        for (int letter = 0; letter < 128; letter++) {
            due("append(" + letter + ")", graph.append(letter), letter % 80 + 1);
            if (letter == 79) {
                graph.clearText();
            }
        }
    }

    private static void promise18Returns() {
        CHECKS.sentence("Returns the length of the text then; BAD_VALUE; FULL if it has 80 bytes.");
        GradeGraph graph = new GradeGraph();
        for (int length = 1; length <= 80; length++) {
            due("append()", graph.append('s'), length);
        }
        due("the next one", graph.append('s'), FULL);
        due("a wrong letter", graph.append(128), BAD_VALUE);
        due("a wrong letter", graph.append(-1), BAD_VALUE);
        due("the length stays", graph.clearText(), 80);
        due("append() then", graph.append('s'), 1);
    }

    private static void promise19() {
        CHECKS.sentence("Empties the text. Returns the length that it had.");
        GradeGraph graph = sources(1);
        due("an empty one", graph.clearText(), 0);
        graph.append('s');
        due("one byte", graph.clearText(), 1);
        due("the text is empty", graph.faultPosition(), 0);
        Checks.write(graph, LONGEST);
        due("80 bytes", graph.clearText(), 80);
        due("an empty one", graph.clearText(), 0);
        due("the text is empty", graph.faultPosition(), 0);
        Checks.write(graph, "n(0");
        due("nothing of the old text is left", graph.faultPosition(), 3);
    }

    private static void promise20() {
        CHECKS.sentence("Returns the fault position of the text; NONE if it has no fault.");
        fault("", 0);
        fault("s(1)", NONE);
        fault("x", 0);
        fault("s(1)x", 4);
        GradeGraph graph = sources(1);
        Checks.write(graph, "s(1");
        due("asked once", graph.faultPosition(), 3);
        due("asked twice", graph.faultPosition(), 3);
        graph.append(')');
        due("then", graph.faultPosition(), NONE);
    }

    private static void promise21() {
        CHECKS.sentence("Returns the fault depth of the text; NONE if it has no fault.");
        depth("", 0);
        depth("s(1)", NONE);
        depth("s(1", 1);
        depth("s(1))", 0);
        depth("i(i(i(i(i(i(i", 6);
    }

    private static void node(GradeGraph graph, int node, int kind, int... rest) {
        due("kind of " + node, graph.node(node, 0), kind);
        int inputs = kind == BLEND ? 3 : kind == SOURCE ? 0 : 1;
        for (int index = 0; index < rest.length; index++) {
            int got = index < inputs ? graph.input(node, index) : graph.parameter(node, index - inputs);
            due((index < inputs ? "input " : "parameter or what is behind input ") + index + " of " + node, got, rest[index]);
        }
        due("the first frame of " + node, graph.node(node, 1), 0);
        due("the last frame of " + node, graph.node(node, 2), 99);
    }

    private static void promise22Order() {
        CHECKS.sentence("those of the expressions within an expression first, from the left to the right, then its own");
        GradeGraph graph = new GradeGraph();
        Checks.write(graph, LONGEST);
        due("build()", graph.build(), 11);
        node(graph, 0, SOURCE, 100);
        node(graph, 1, KEY, 0, 0, 100, 200, 10);
        node(graph, 2, SOURCE, 200);
        node(graph, 3, SOURCE, 300);
        node(graph, 4, SOURCE, 400);
        node(graph, 5, BLEND, 2, 3, 4);
        node(graph, 6, SOURCE, 500);
        node(graph, 7, INVERT, 6);
        node(graph, 8, BLUR, 7, 1);
        node(graph, 9, SHIFT, 8, -100, -100, -100);
        node(graph, 10, SHIFT, 9, -160, -160, -160);
        node(graph, 11, BLEND, 1, 5, 10);
    }

    private static void promise22Connected() {
        CHECKS.sentence("Adds the nodes of the expression of the text, connected as it says");
        GradeGraph graph = sources(2);
        for (int built = 0; built < 10; built++) {
            int node = 2 + built;
            Checks.write(graph, "i(n(" + (built == 0 ? 0 : node - 1) + "))");
            due("build()", graph.build(), node);
            due("its depth", graph.node(node, 5), built + 1);
            due("its place", graph.node(node, 4), node);
            due("those that depend on node 0", graph.node(0, 3), built + 2);
            due("those that depend on node 1", graph.node(1, 3), 1);
            due("a cycle", graph.connect(2, 0, node), GradeGraph.NOT_POSSIBLE);
        }
    }

    private static void promise22StandsFor() {
        CHECKS.sentence("They stand for a SOURCE; a GAIN and a SHIFT with this amount for all channels; an INVERT; a BLUR; a KEY; a BLEND");
        String[] texts = {"s(0)", "s(999)", "g(n(0),0)", "g(n(0),64)", "t(n(0),0)", "t(n(0),255)", "t(n(0),-255)", "i(n(0))", "l(n(0),0)",
            "l(n(0),3)", "k(n(0),0,0,0,0)", "k(n(0),2,255,254,99)", "b(n(0),n(0),n(0))"};
        int[] kinds = {SOURCE, SOURCE, GAIN, GAIN, SHIFT, SHIFT, SHIFT, INVERT, BLUR, BLUR, KEY, KEY, BLEND};
        int[][] rest = {{0}, {999}, {0, 0, 0, 0}, {0, 64, 64, 64}, {0, 0, 0, 0}, {0, 255, 255, 255}, {0, -255, -255, -255}, {0}, {0, 0},
            {0, 3}, {0, 0, 0, 0, 0}, {0, 2, 255, 254, 99}, {0, 0, 0}};
        for (int row = 0; row < texts.length; row++) {
            GradeGraph graph = sources(1);
            Checks.write(graph, texts[row]);
            due("build() of " + texts[row], graph.build(), 1);
            node(graph, 1, kinds[row], rest[row]);
            due("nodes()", graph.nodes(), 2);
        }
    }

    private static void promise22NoneAdded() {
        CHECKS.sentence("(none, if it is n( with a number alone)");
        GradeGraph graph = sources(12);
        graph.setRange(11, 4, 5);
        Checks.write(graph, "n(11)");
        due("the last one of twelve", graph.build(), 11);
        due("none is added", graph.nodes(), 12);
        due("it stays as it is", graph.node(11, 1), 4);
        Checks.write(graph, "n(0)");
        due("the first one", graph.build(), 0);
        due("none is added", graph.nodes(), 12);
    }

    private static void promise22NoPicture() {
        CHECKS.sentence("No picture is asked for or becomes void by this.");
        GradeGraph graph = Checks.built("i(s(7))");
        for (int frame = 0; frame < 8; frame++) {
            graph.value(1, frame, 0, 0, 0);
        }
        Checks.write(graph, "b(i(n(1)),n(0),n(1))");
        due("build()", graph.build(), 3);
        int[] want = {16, 0, 16, 0, 0};
        for (int what = 0; what < 5; what++) {
            due("count(" + what + ")", graph.count(what), want[what]);
        }
        due("a new node's picture", graph.isCached(3, 0), 0);
        due("an old node's picture", graph.isCached(1, 0), 1);
        graph.value(0, 20, 0, 0, 0);
        due("and none was used", graph.isCached(0, 0), 0);
    }

    private static void promise22TextStays() {
        CHECKS.sentence("The text stays.");
        GradeGraph graph = new GradeGraph();
        Checks.write(graph, "i(s(7))");
        due("build()", graph.build(), 1);
        due("build() once more", graph.build(), 3);
        due("its length", graph.clearText(), 7);
    }

    private static void promise22Fault() {
        CHECKS.sentence("Returns the number of the node of the whole expression; NOT_POSSIBLE if the text has a fault");
        for (String text : RIGHT) {
            for (int length = 0; length < text.length(); length++) {
                GradeGraph graph = sources(1);
                Checks.write(graph, text.substring(0, length));
                due("build() of " + text.substring(0, length), graph.build(), NOT_POSSIBLE);
                due("none is added", graph.nodes(), 1);
                due("no such node", graph.node(1, 0), BAD_INDEX);
            }
        }
        GradeGraph graph = sources(12);
        Checks.write(graph, "b(s(1),s(2),s(3)");
        due("a fault when there is no room", graph.build(), NOT_POSSIBLE);
        graph.append(')');
        due("no room", graph.build(), FULL);
    }

    private static void promise22Full() {
        CHECKS.sentence("FULL if there would be more than 12 nodes.");
        for (int nodes = 0; nodes <= 12; nodes++) {
            String[] texts = {"s(1)", "i(s(1))", "i(i(i(s(1))))", "b(i(s(1)),i(s(2)),s(3))"};
            int[] numbers = {1, 2, 4, 6};
            for (int row = 0; row < texts.length; row++) {
                GradeGraph graph = sources(nodes);
                Checks.write(graph, texts[row]);
                boolean fits = nodes + numbers[row] <= 12;
                due(texts[row] + " behind " + nodes, graph.build(), fits ? nodes + numbers[row] - 1 : FULL);
                due("nodes()", graph.nodes(), fits ? nodes + numbers[row] : nodes);
            }
        }
        GradeGraph graph = new GradeGraph();
        Checks.write(graph, "b(b(s(1),s(2),s(3)),b(s(4),s(5),s(6)),b(s(7),s(8),i(n(0))))");
        due("a number of a node that is not there yet", graph.build(), NOT_POSSIBLE);
        Checks.write(graph, "b(b(s(1),s(2),s(3)),b(s(4),s(5),s(6)),i(i(s(7))))");
        due("twelve", graph.build(), 11);
        graph.clear();
        Checks.write(graph, "b(b(s(1),s(2),s(3)),b(s(4),s(5),s(6)),b(s(7),s(8),s(9)))");
        due("thirteen", graph.build(), FULL);
        Checks.write(graph, "b(b(b(s(1),s(2),s(3)),s(4),s(5)),b(s(6),s(7),s(8)),b(s(9),s(1),s(2)))");
        due("sixteen", graph.build(), FULL);
        Checks.write(graph, "b(i(i(i(i(s(1))))),i(i(i(i(s(1))))),b(i(i(i(s(1)))),i(i(i(s(1)))),s(1)))");
        due("twenty-one", graph.build(), FULL);
        due("none is added", graph.nodes(), 0);
        due("the next one is the first one", graph.addNode(KEY), 0);
        node(graph, 0, KEY, NONE, 0, 0, 255, 0);
    }
}
