/** The sentences on a TEXT and its FAULTS. */
final class TextEdges extends Edges {
    private static final String[] ENDS_TOO_EARLY = {
        "", "nodes", "nodes 2", "nodes 2;line", "nodes 2;line 0", "nodes 2;line 0 1", "nodes 2;line 0 1 5",
        "nodes 2;ring", "nodes 2;ring 0", "nodes 2;ring 0 1", "nodes 2;all", "nodes 2;pair", "nodes 2;pair 0",
        "nodes 2;pair 0 1", "nodes 12;ring 0 1 2 3 4 5 6 7 8 9 10 11"};

    private TextEdges() {
    }

    static void all() {
        form();
        signs();
        faults();
    }

    private static void form() {
        holds("Terms", "A TEXT has up to 500 bytes:", TextEdges::upTo500Bytes);
        holds("Terms", "\"nodes\" N \";\" {", TextEdges::nodesFirst);
        holds("Terms", "\"line\" N N [ N ] \";\"", TextEdges::lineOfTwoOrThree);
        holds("Terms", "\"ring\" N N { N } \";\"", TextEdges::ringOfTwoToTwelve);
        holds("Terms", "\"all\" \";\"", TextEdges::allAlone);
        holds("Terms", "\"pair\" N N \";\" }:", TextEdges::pairOfTwo);
        holds("Terms", "two NODES, the WEIGHT (1 without;", TextEdges::weightWithout);
        holds("Terms", "of one that is told already this counts);", TextEdges::weightToldAgain);
        holds("Terms", "a row of NODES: LINES from each to the next one, from the last one to the first one", TextEdges::ringCloses);
        holds("Terms", "(if it is not told yet each has WEIGHT 1);", TextEdges::ringLeavesWeights);
        holds("Terms", "LINES between all NODES (likewise);", TextEdges::allLeavesWeights);
        holds("Terms", "a LINE that is a PAIR.", TextEdges::pairIsToldAsLine);
    }

    private static void signs() {
        holds("Terms", "N: digits as many as stand there;", TextEdges::digits);
        holds("Terms", "N: digits as many as stand there;", TextEdges::digitsDontWrapAround);
        holds("Terms", "words: small letters as many as stand there;", TextEdges::words);
        holds("Terms", "blanks (32) may stand ahead of all words, numbers, \";\", and at the end.", TextEdges::blanks);
        holds("Terms", "blanks (32) may stand ahead of all words, numbers, \";\", and at the end.", TextEdges::noOtherBlanks);
    }

    private static void faults() {
        holds("Terms", "FAULTS; of 1 and 2 the one whose first byte is least,", TextEdges::leastByte);
        holds("Terms", "of one byte the first in this list:", TextEdges::ofOneByteTheFirst);
        holds("Terms", "1 what can't stand there", TextEdges::cannotStand);
        holds("Terms", "(at the length, if the text ends too early;", TextEdges::endsTooEarly);
        holds("Terms", "a 13th N of \"ring\");", TextEdges::thirteenthOfRing);
        holds("Terms", "2 a number that is none such", TextEdges::noSuchNumber);
        holds("Terms", "(a NODE that there is not;", TextEdges::noSuchNode);
        holds("Terms", "the second NODE, if it is the first one;", TextEdges::secondIsFirst);
        holds("Terms", "of \"ring\" one that stands there already).", TextEdges::twiceInRing);
        holds("Terms", "If there is none of these: 3, at the length:", TextEdges::threeComesLast);
        holds("Terms", "a \"pair\" that is no LINE (as all is told),", TextEdges::pairThatIsNoLine);
        holds("Terms", "or that has a NODE of one told ahead.", TextEdges::pairOfNodeToldAhead);
        holds("Terms", "At first: \"nodes 2; line 0 1;\".", TextEdges::atFirst);
    }

    /** The place of the fault is marked by a bar. */
    private static void fault(int kind, String marked) {
        int place = marked.indexOf('|');
        faultOf(marked.substring(0, place) + marked.substring(place + 1), kind, place);
    }

    private static void good(String text, int lines) {
        OddPairs x = new OddPairs();
        due("text '" + text + "'", tell(x, text), lines);
        due("fault() of '" + text + "'", x.fault(), -1);
    }

    private static void upTo500Bytes() {
        String gap = " ".repeat(488);
        good("nodes 2;" + gap + "all;", 1);
        fault(1, "nodes 2;" + gap + "all|,");
        fault(1, "nodes 2; " + gap + "all|");
        good("nodes " + "0".repeat(492) + "2;", 0);
    }

    private static void nodesFirst() {
        good("nodes 2;", 0);
        fault(1, "|line 0 1;");
        fault(1, "|all;nodes 2;");
        fault(1, "|2;");
        fault(1, "|;");
        fault(1, "nodes|;");
        fault(1, "nodes |all;");
        fault(1, "nodes 2 |all;");
        fault(1, "nodes 2 |2;");
        fault(1, "nodes 2;|nodes 2;");
        fault(1, "nodes 2;|;");
    }

    private static void lineOfTwoOrThree() {
        good("nodes 2;line 0 1;", 1);
        good("nodes 2;line 0 1 1;", 1);
        fault(1, "nodes 2;line|;");
        fault(1, "nodes 2;line 0|;");
        fault(1, "nodes 2;line 0 1 1 |1;");
        fault(1, "nodes 2;line 0 1 |all;");
    }

    private static void ringOfTwoToTwelve() {
        fault(1, "nodes 12;ring|;");
        fault(1, "nodes 12;ring 0|;");
        StringBuilder s = new StringBuilder("nodes 12;ring 0");
        for (int count = 2; count <= 12; count++) {
            s.append(' ').append(count - 1);
            good(s + ";", count == 2 ? 1 : count);
        }
        fault(1, "nodes 12;ring 0 1 |all;");
    }

    private static void allAlone() {
        good("nodes 1;all;", 0);
        good("nodes 2;all;", 1);
        good("nodes 12;all;", 66);
        fault(1, "nodes 2;all |1;");
        fault(1, "nodes 2;all |all;");
    }

    private static void pairOfTwo() {
        good("nodes 2;all;pair 0 1;", 1);
        fault(1, "nodes 2;all;pair|;");
        fault(1, "nodes 2;all;pair 0|;");
        fault(1, "nodes 2;all;pair 0 1 |1;");
        fault(1, "nodes 2;all;pair 0 1;|;");
    }

    private static void weightWithout() {
        due("without", of("nodes 2;line 0 1;").line(0, 1, 1), 1);
        due("the least", of("nodes 2;line 0 1 0;").line(0, 1, 1), 0);
        due("the greatest", of("nodes 2;line 0 1 999;").line(0, 1, 1), 999);
        fault(2, "nodes 2;line 0 1 |1000;");
    }

    private static void weightToldAgain() {
        OddPairs x = of("nodes 3;line 0 1 7;line 1 0 3;ring 1 2;line 1 2 999;line 0 2 8;line 0 2;");
        due("told again", x.line(0, 1, 1), 3);
        due("told by a ring ahead", x.line(1, 2, 1), 999);
        due("told again without", x.line(0, 2, 1), 1);
        due("each is one LINE", x.told(1), 3);
        due("told by all ahead", of("nodes 2;all;line 0 1 0;").line(0, 1, 1), 0);
    }

    private static void ringCloses() {
        OddPairs x = of("nodes 5;ring 3 0 4 1;");
        due("lines", x.told(1), 4);
        due("3 0", x.line(3, 0, 0), 1);
        due("0 4", x.line(0, 4, 0), 1);
        due("4 1", x.line(4, 1, 0), 1);
        due("1 3", x.line(1, 3, 0), 1);
        due("2 is in none", x.node(2, 0), 0);
        due("two are one LINE", of("nodes 2;ring 1 0;").told(1), 1);
    }

    private static void ringLeavesWeights() {
        OddPairs x = of("nodes 3;line 0 1 0;line 2 0 999;ring 0 1 2;");
        due("0 stays", x.line(0, 1, 1), 0);
        due("999 stays", x.line(0, 2, 1), 999);
        due("one that was not told", x.line(1, 2, 1), 1);
        due("two that are told", of("nodes 2;line 0 1 5;ring 0 1;").line(0, 1, 1), 5);
    }

    private static void allLeavesWeights() {
        OddPairs x = of("nodes 12;line 10 11 0;line 1 0 999;all;");
        due("0 stays", x.line(10, 11, 1), 0);
        due("999 stays", x.line(0, 1, 1), 999);
        due("one that was not told", x.line(0, 11, 1), 1);
        due("lines", x.told(1), 66);
    }

    private static void pairIsToldAsLine() {
        OddPairs x = of("nodes 12;all;pair 0 1;pair 3 2;pair 4 5;pair 6 7;pair 9 8;pair 10 11;");
        mates(x, 1, 1, 0, 3, 2, 5, 4, 7, 6, 9, 8, 11, 10);
        due("a text without one", of("nodes 2;all;").told(2), 0);
    }

    private static void digits() {
        OddPairs x = of("nodes 0012;line 000000010 0000000000000000011 000000909;");
        due("nodes", x.told(0), 12);
        due("weight", x.line(10, 11, 1), 909);
        fault(1, "nodes 2;line 01|;");
        fault(2, "nodes |12000;");
        fault(1, "nodes 2;line 0 1 9|:;");
        fault(1, "nodes 2;line 0 1 0|/;");
        fault(1, "nodes 2;line 0 1 |-1;");
        fault(1, "nodes 2;line 0 1 |+1;");
        fault(1, "nodes 2;line 0 1 1|.0;");
    }

    private static void digitsDontWrapAround() {
        fault(2, "nodes |256;");
        fault(2, "nodes |258;");
        fault(2, "nodes |65538;");
        fault(2, "nodes |4294967298;");
        fault(2, "nodes |18446744073709551618;");
        fault(2, "nodes |" + "9".repeat(400) + ";");
        fault(2, "nodes 2;line |4294967296 1;");
        fault(2, "nodes 2;line 0 |4294967297;");
        fault(2, "nodes 2;line 0 1 |4294967297;");
        fault(2, "nodes 2;ring 0 |18446744073709551617;");
        fault(2, "nodes 2;pair 0 |1" + "0".repeat(64) + ";");
    }

    private static void words() {
        fault(1, "|nodess 2;");
        fault(1, "|node 2;");
        fault(1, "|nodesall 2;");
        fault(1, "|modes 2;");
        fault(1, "nodes 2;|mine 0 1;");
        fault(1, "nodes 2;|sing 0 1;");
        fault(1, "nodes 2;|ill;");
        fault(1, "nodes 2;|hair 0 1;");
        fault(1, "|Nodes 2;");
        fault(1, "|nodeS 2;");
        fault(1, "nodes 2;|allz;");
        fault(1, "nodes 2;|alla;");
        fault(1, "nodes 2;|al;");
        fault(1, "nodes 2;|allpair 0 1;");
        fault(1, "nodes 2;|rings 0 1;");
        fault(1, "nodes 2;|lines 0 1;");
        fault(1, "nodes 2;|pairs 0 1;");
        fault(1, "nodes 2;|a ll;");
        fault(1, "nodes 2;all|{;");
        fault(1, "nodes 2;all|`;");
        fault(1, "nodes 2;all|A;");
    }

    private static void blanks() {
        good("nodes2;line0 1;ring0 1;all;pair0 1;", 1);
        good("  nodes  2  ;  line  0  1  5  ;  ring  0  1  ;  all  ;  pair  0  1  ;  ", 1);
        good("nodes 2;all;" + " ".repeat(400), 1);
        good(" ".repeat(400) + "nodes 2;all;", 1);
        fault(1, "|no des 2;");
        fault(1, "nodes 1 |2;");
    }

    private static void noOtherBlanks() {
        for (char sign : new char[] {0, 9, 10, 13, 31, 33, 128, 160, 255}) {
            fault(1, "|" + sign + "nodes 2;");
            fault(1, "nodes|" + sign + "2;");
            fault(1, "nodes 2|" + sign + ";");
            fault(1, "nodes 2;|" + sign);
        }
    }

    private static void leastByte() {
        fault(2, "nodes |13");
        fault(2, "nodes |0 nodes");
        fault(2, "nodes 2;line 0 |2 x;");
        fault(2, "nodes 2;line |2 2 1000;");
        fault(2, "nodes 2;line 0 |0 1000;");
        fault(2, "nodes 2;ring 0 1 |1 x");
        fault(1, "nodes 2;|lime 0 2;");
        fault(1, "nodes 2;line |x 2;");
        fault(1, "nodes 2;all |x;line 0 2;");
    }

    private static void ofOneByteTheFirst() {
        fault(1, "nodes 12;ring 0 1 2 3 4 5 6 7 8 9 10 11 |0;");
        fault(1, "nodes 12;ring 0 1 2 3 4 5 6 7 8 9 10 11 |12;");
        fault(1, "nodes 2;line 0 1 5 |1000;");
        fault(1, "nodes 2;all |99;");
        fault(1, "nodes 2;pair 0 1 |1;");
    }

    private static void cannotStand() {
        fault(1, "nodes 2;|x");
        fault(1, "nodes 2;|0");
        fault(1, "nodes 2;all;|;");
        fault(1, "nodes 2;all|,");
        fault(1, "nodes 2;line 0 1|,");
        fault(1, "nodes 2;line 0|,1;");
        fault(1, "nodes 2;ring 0 1|,");
        fault(1, "nodes 2;ring |all;");
        fault(1, "nodes 2;pair |all;");
    }

    private static void endsTooEarly() {
        for (String text : ENDS_TOO_EARLY) {
            fault(1, text + "|");
            fault(1, text + "   |");
        }
        fault(1, "nodes 2;|lin");
        good("nodes 2;", 0);
    }

    private static void thirteenthOfRing() {
        good("nodes 12;ring 11 10 9 8 7 6 5 4 3 2 1 0;", 12);
        fault(1, "nodes 12;ring 11 10 9 8 7 6 5 4 3 2 1 0 |7;");
        fault(1, "nodes 12;ring 11 10 9 8 7 6 5 4 3 2 1 0 |7 7");
        fault(2, "nodes 12;ring 11 10 9 8 7 6 5 4 3 2 1 |1 0;");
    }

    private static void noSuchNumber() {
        fault(2, "nodes |0;");
        fault(2, "nodes |13;");
        fault(2, "nodes 2;line 0 1 |1000;");
        fault(2, "nodes 2;line 0 1 |9990;");
        good("nodes 1;", 0);
        good("nodes 12;", 0);
        good("nodes 2;line 0 1 0;", 1);
        good("nodes 2;line 0 1 999;", 1);
    }

    private static void noSuchNode() {
        for (int count = 2; count <= 12; count++) {
            String nodes = "nodes " + count + ";";
            good(nodes + "line 0 " + (count - 1) + ";", 1);
            good(nodes + "line " + (count - 1) + " 0;", 1);
            for (String word : new String[] {"line", "ring", "pair"}) {
                fault(2, nodes + word + " |" + count + " 0;");
                fault(2, nodes + word + " 0 |" + count + ";");
            }
        }
        fault(2, "nodes 1;line 0 |1;");
        fault(2, "nodes 3;ring 0 1 |3;");
    }

    private static void secondIsFirst() {
        fault(2, "nodes 2;line 0 |0;");
        fault(2, "nodes 2;line 1 |01 5;");
        fault(2, "nodes 2;pair 1 |1;");
        fault(2, "nodes 1;pair 0 |0;");
        good("nodes 2;line 0 1 0;line 1 0 1;", 1);
    }

    private static void twiceInRing() {
        fault(2, "nodes 3;ring 0 |0;");
        fault(2, "nodes 3;ring 0 1 |0;");
        fault(2, "nodes 3;ring 0 1 |1;");
        fault(2, "nodes 3;ring 0 1 2 |01;");
        fault(2, "nodes 1;ring 0 |0;");
        good("nodes 3;ring 0 1;ring 1 0;", 1);
    }

    private static void threeComesLast() {
        fault(3, "nodes 2;pair 0 1;|");
        fault(3, "nodes 2;pair 0 1;   |");
        fault(3, "nodes 3;pair 0 1;line 1 2;|");
        fault(1, "nodes 2;pair 0 1;|x");
        fault(1, "nodes 2;pair 0 1;all|");
        fault(2, "nodes 2;pair 0 1;line 0 |2;");
        fault(2, "nodes 2;all;pair 0 1;pair 0 1;line 0 1 |1000;");
    }

    private static void pairThatIsNoLine() {
        fault(3, "nodes 3;line 0 1;line 1 2;pair 0 2;|");
        good("nodes 2;pair 0 1;line 0 1;", 1);
        good("nodes 3;pair 2 0;ring 0 1 2;", 3);
        good("nodes 3;pair 2 1;all;", 3);
        good("nodes 2;pair 0 1;line 1 0 0;", 1);
    }

    private static void pairOfNodeToldAhead() {
        fault(3, "nodes 4;all;pair 0 1;pair 1 2;|");
        fault(3, "nodes 4;all;pair 0 1;pair 2 0;|");
        fault(3, "nodes 4;all;pair 0 1;pair 0 1;|");
        fault(3, "nodes 4;all;pair 0 1;pair 1 0;|");
        fault(3, "nodes 4;all;pair 2 3;pair 0 1;pair 3 1;|");
        good("nodes 4;all;pair 2 3;pair 0 1;", 6);
        OddPairs x = new OddPairs();
        due("a FAULT", tell(x, "nodes 4;all;pair 0 1;pair 1 2;"), -7);
        due("ahead in the same TEXT alone", tell(x, "nodes 4;all;pair 1 2;"), 6);
    }

    private static void atFirst() {
        OddPairs x = new OddPairs();
        OddPairs y = of("nodes 2; line 0 1;");
        due("nodes", x.told(0), 2);
        due("lines", x.told(1), 1);
        due("weight", x.line(0, 1, 1), 1);
        due("as if it were told", x.print(), y.print());
        due("but by no ACT", x.told(7), 0);
    }
}
