/** The sentences of promises 13 to 24: the questions. */
final class QuestionEdges extends Edges {
    private static final int LEAST = Integer.MIN_VALUE;
    private static final int GREATEST = Integer.MAX_VALUE;
    private static final String SIX_OF_999 = "nodes 12;line 0 1 999;line 2 3 999;line 4 5 999;line 6 7 999;"
        + "line 8 9 999;line 10 11 999;pair 0 1;pair 2 3;pair 4 5;pair 6 7;pair 8 9;pair 10 11;";

    private QuestionEdges() {
    }

    static void all() {
        told();
        ofLinesAndNodes();
        ofSets();
        ofGreatest();
        rows();
        sums();
    }

    private static void told() {
        holds("Promise 13", "0 NODES,", QuestionEdges::toldNodes);
        holds("Promise 13", "1 LINES,", QuestionEdges::toldLines);
        holds("Promise 13", "2 PAIRS,", QuestionEdges::toldPairs);
        holds("Promise 13", "3 MOST,", QuestionEdges::toldMost);
        holds("Promise 13", "4 MISSING,", QuestionEdges::toldMissing);
        holds("Promise 13", "5 WEIGHTS of PAIRS together,", QuestionEdges::toldWeights);
        holds("Promise 13", "6 bytes of the TAPE,", QuestionEdges::toldTape);
        holds("Promise 13", "7 ACTS that can be taken back.", QuestionEdges::toldActs);
        holds("Promise 13", "throws IllegalArgumentException", QuestionEdges::toldNoSuch);
    }

    private static void ofLinesAndNodes() {
        holds("Promise 14", "Of two unlike NODES: 0 1 there is a LINE,", QuestionEdges::lineIsThere);
        holds("Promise 14", "1 its WEIGHT (NONE),", QuestionEdges::lineWeight);
        holds("Promise 14", "2 1 it is a PAIR,", QuestionEdges::lineIsPair);
        holds("Promise 14", "3 1 some GREATEST MATCHING has it,", QuestionEdges::someHaveLine);
        holds("Promise 14", "4 1 all have it.", QuestionEdges::allHaveLine);
        holds("Promise 14", "throws NoSuchElementException, IllegalArgumentException", QuestionEdges::lineNoSuch);
        holds("Promise 15", "Of a NODE: 0 LINES,", QuestionEdges::nodeLines);
        holds("Promise 15", "1 with whom it is PAIRED (NONE),", QuestionEdges::nodePaired);
        holds("Promise 15", "2 its LABEL,", QuestionEdges::nodeLabel);
        holds("Promise 15", "3 the set that it is in (0 MISSED, 1 BESIDE, 2 the REST),", QuestionEdges::nodeSet);
        holds("Promise 15", "4 with whom it is in FIRST (NONE).", QuestionEdges::nodeFirst);
        holds("Promise 15", "throws NoSuchElementException, IllegalArgumentException", QuestionEdges::nodeNoSuch);
    }

    private static void ofSets() {
        holds("Promise 16", "SETS 0 to 2, as bits;", QuestionEdges::setsAsBits);
        holds("Promise 16", "LABELS as bits: 3 EVEN, 4 ODD, 5 OUT.", QuestionEdges::labelsAsBits);
        holds("Promise 16", "throws IllegalArgumentException", QuestionEdges::setsNoSuch);
        holds("Promise 17", "ODD of a set (bits of NODES).", QuestionEdges::oddOfBits);
        holds("Promise 17", "throws IllegalArgumentException", QuestionEdges::oddNoSuch);
        holds("Promise 18", "The BARRIER with the fewest NODES (what 0),", QuestionEdges::fewestBarrier);
        holds("Promise 18", "with the most (1);", QuestionEdges::mostBarrier);
        holds("Promise 18", "of several the least as bits.", QuestionEdges::leastBarrier);
        holds("Promise 18", "throws IllegalArgumentException", QuestionEdges::barrierNoSuch);
    }

    private static void ofGreatest() {
        holds("Promise 19", "How many GREATEST MATCHINGS there are.", QuestionEdges::waysOneToMost);
        holds("Promise 20", "WEIGHTS together of GREATEST MATCHINGS: 0 the most, 1 the least.", QuestionEdges::heavyNoneToMost);
        holds("Promise 20", "throws IllegalArgumentException", QuestionEdges::heavyNoSuch);
    }

    private static void rows() {
        holds("Promise 21", "The BETTER PATH of better(): how many LINES (i NONE), its i-th NODE (0: the first).", QuestionEdges::pathRow);
        holds("Promise 21", "NONE: it is not FREE, there is none.", QuestionEdges::pathNone);
        holds("Promise 21", "NoSuchElementException: also it has no i-th NODE (if there is one).", QuestionEdges::pathNoSuch);
        holds("Promise 22", "The FLOWER of shrink(): how many NODES (i NONE), its i-th one (0: the NODE itself).", QuestionEdges::flowerRow);
        holds("Promise 22", "NONE, NoSuchElementException likewise.", QuestionEdges::flowerNone);
        holds("Promise 22", "NoSuchElementException likewise.", QuestionEdges::flowerNoSuch);
    }

    private static void sums() {
        holds("Promise 23", "From 0 on, of NODE by NODE 31 times what there is, and with whom it is PAIRED (NONE);", QuestionEdges::printPairs);
        holds("Promise 23", "of all couples a, b (a below b, by a, then b) that are LINES 31 times, and WEIGHT.", QuestionEdges::printLines);
        holds("Promise 23", "of all couples a, b (a below b, by a, then b) that are LINES 31 times, and WEIGHT.", QuestionEdges::printWrapsAround);
        holds("Promise 24", "How many calls were refused: 0 NoSuchElementException, 1 IllegalArgumentException, 2 IllegalStateException;", QuestionEdges::statusCounts);
        holds("Promise 24", "NONE for others.", QuestionEdges::statusOfOthers);
    }

    private static void toldNodes() {
        due("one", of("nodes 1;").told(0), 1);
        due("twelve", of("nodes 12;").told(0), 12);
    }

    private static void toldLines() {
        due("none", of("nodes 12;").told(1), 0);
        due("all", of("nodes 12;all;").told(1), 66);
    }

    private static void toldPairs() {
        due("none", of("nodes 12;all;").told(2), 0);
        due("six", of(SIX_OF_999).told(2), 6);
    }

    private static void toldMost() {
        due("none", of("nodes 12;").told(3), 0);
        due("six", of(SIX_OF_999).told(3), 6);
        OddPairs x = new OddPairs();
        due("one", x.told(3), 1);
        x.cut(0, 1);
        due("follows cut()", x.told(3), 0);
        x.join(0, 1, 0);
        due("follows join()", x.told(3), 1);
        x.undo();
        due("follows undo()", x.told(3), 0);
        tell(x, "nodes 4;all;");
        due("follows text()", x.told(3), 2);
        x.pair(0, 1);
        x.shrink(2);
        due("follows shrink()", x.told(3), 1);
    }

    private static void toldMissing() {
        due("none", of(SIX_OF_999).told(4), 0);
        due("twelve", of("nodes 12;").told(4), 12);
        due("one", of("nodes 11;all;").told(4), 1);
    }

    private static void toldWeights() {
        due("no PAIR", of("nodes 2;line 0 1 999;").told(5), 0);
        due("of WEIGHT 0", of("nodes 2;line 0 1 0;pair 0 1;").told(5), 0);
        due("the most", of(SIX_OF_999).told(5), 5994);
        OddPairs x = of("nodes 4;line 0 1 5;line 2 3 6;pair 0 1;pair 2 3;");
        x.part(0);
        due("follows part()", x.told(5), 6);
    }

    private static void toldTape() {
        OddPairs x = new OddPairs();
        due("none", x.told(6), 0);
        for (int i = 1; i <= 26; i++) {
            x.feed(i, i, i, i, i);
            due("behind feed() " + i, x.told(6), Math.min(20 * i, 500));
        }
        x.undo();
        due("undo() leaves it", x.told(6), 500);
        x.text(0);
        due("behind text()", x.told(6), 0);
    }

    private static void toldActs() {
        OddPairs x = new OddPairs();
        due("none", x.told(7), 0);
        for (int i = 1; i <= 10; i++) {
            x.finish();
            due("behind act " + i, x.told(7), Math.min(i, 8));
        }
        x.undo();
        due("behind undo()", x.told(7), 7);
    }

    private static void toldNoSuch() {
        OddPairs x = new OddPairs();
        thrown(x, "told(-1)", () -> x.told(-1), ARGUMENT);
        thrown(x, "told(8)", () -> x.told(8), ARGUMENT);
        thrown(x, "told(LEAST)", () -> x.told(LEAST), ARGUMENT);
        thrown(x, "told(GREATEST)", () -> x.told(GREATEST), ARGUMENT);
    }

    private static void lineIsThere() {
        OddPairs x = of("nodes 12;line 0 11 0;");
        due("line(0, 11, 0)", x.line(0, 11, 0), 1);
        due("line(11, 0, 0)", x.line(11, 0, 0), 1);
        due("line(0, 10, 0)", x.line(0, 10, 0), 0);
        thrown(x, "line(11, 11, 0)", () -> x.line(11, 11, 0), ARGUMENT);
    }

    private static void lineWeight() {
        OddPairs x = of("nodes 3;line 0 1 0;line 2 0 999;");
        due("0", x.line(1, 0, 1), 0);
        due("999", x.line(0, 2, 1), 999);
        due("NONE", x.line(1, 2, 1), -1);
        x.cut(0, 1);
        due("NONE of one that is cut", x.line(0, 1, 1), -1);
    }

    private static void lineIsPair() {
        OddPairs x = of("nodes 4;all;pair 0 1;");
        due("a PAIR", x.line(0, 1, 2), 1);
        due("either way", x.line(1, 0, 2), 1);
        due("of one that is PAIRED", x.line(1, 2, 2), 0);
        due("of FREE ones", x.line(2, 3, 2), 0);
        x.part(1);
        due("parted", x.line(0, 1, 2), 0);
    }

    private static void someHaveLine() {
        OddPairs x = of("nodes 5;line 0 1;line 1 2;line 2 3;");
        due("the end", x.line(1, 0, 3), 1);
        due("the middle", x.line(1, 2, 3), 0);
        due("no LINE", x.line(0, 3, 3), 0);
        due("nor with a lone one", x.line(4, 0, 3), 0);
        due("one of many", of("nodes 12;all;").line(11, 10, 3), 1);
        due("no LINE at all", of("nodes 2;").line(0, 1, 3), 0);
    }

    private static void allHaveLine() {
        OddPairs x = of("nodes 5;line 0 1;line 1 2;line 2 3;");
        due("the end", x.line(1, 0, 4), 1);
        due("the middle", x.line(1, 2, 4), 0);
        due("no LINE", x.line(0, 3, 4), 0);
        due("some only", of("nodes 12;all;").line(11, 10, 4), 0);
        due("no LINE, and one MATCHING without any", of("nodes 2;").line(0, 1, 4), 0);
        due("no LINE, as the others have as many without both", of("nodes 4;line 0 1;").line(2, 3, 4), 0);
    }

    private static void lineNoSuch() {
        OddPairs x = of("nodes 3;all;");
        thrown(x, "line(3, 0, 0)", () -> x.line(3, 0, 0), NO_SUCH);
        thrown(x, "line(0, 3, 0)", () -> x.line(0, 3, 0), NO_SUCH);
        thrown(x, "line(-1, 0, 0)", () -> x.line(-1, 0, 0), NO_SUCH);
        thrown(x, "line(0, -1, 0)", () -> x.line(0, -1, 0), NO_SUCH);
        thrown(x, "line(LEAST, GREATEST, 0)", () -> x.line(LEAST, GREATEST, 0), NO_SUCH);
        thrown(x, "line(1, 1, 0)", () -> x.line(1, 1, 0), ARGUMENT);
        thrown(x, "line(0, 1, -1)", () -> x.line(0, 1, -1), ARGUMENT);
        thrown(x, "line(0, 1, 5)", () -> x.line(0, 1, 5), ARGUMENT);
        thrown(x, "line(0, 1, LEAST)", () -> x.line(0, 1, LEAST), ARGUMENT);
        thrown(x, "line(0, 1, GREATEST)", () -> x.line(0, 1, GREATEST), ARGUMENT);
    }

    private static void nodeLines() {
        due("none", of("nodes 1;").node(0, 0), 0);
        due("eleven", of("nodes 12;all;").node(11, 0), 11);
        OddPairs x = of("nodes 3;line 0 1;");
        due("one", x.node(1, 0), 1);
        due("of another one", x.node(2, 0), 0);
    }

    private static void nodePaired() {
        OddPairs x = of("nodes 12;all;pair 0 11;");
        due("with the last", x.node(0, 1), 11);
        due("with the first", x.node(11, 1), 0);
        due("FREE", x.node(5, 1), -1);
    }

    private static void nodeLabel() {
        OddPairs x = of("nodes 5;line 0 1;line 1 2;line 3 4;pair 1 2;pair 3 4;");
        int[] want = {0, 1, 0, 2, 2};
        for (int a = 0; a < 5; a++) {
            due("node(" + a + ", 2)", x.node(a, 2), want[a]);
        }
        x.part(1);
        due("follows part()", x.node(1, 2), 0);
    }

    private static void nodeSet() {
        OddPairs x = of("nodes 5;line 0 1;line 1 2;line 3 4;pair 3 4;");
        int[] want = {0, 1, 0, 2, 2};
        for (int a = 0; a < 5; a++) {
            due("node(" + a + ", 3)", x.node(a, 3), want[a]);
        }
        x.cut(3, 4);
        due("follows cut()", x.node(3, 3), 0);
    }

    private static void nodeFirst() {
        mates(of("nodes 1;"), 4, -1);
        mates(of("nodes 3;all;pair 1 2;"), 4, 1, 0, -1);
        OddPairs x = of("nodes 12;line 0 11;");
        due("with the last", x.node(0, 4), 11);
        due("with the first", x.node(11, 4), 0);
        due("with nobody", x.node(10, 4), -1);
    }

    private static void nodeNoSuch() {
        OddPairs x = of("nodes 3;all;");
        thrown(x, "node(3, 0)", () -> x.node(3, 0), NO_SUCH);
        thrown(x, "node(-1, 0)", () -> x.node(-1, 0), NO_SUCH);
        thrown(x, "node(LEAST, 0)", () -> x.node(LEAST, 0), NO_SUCH);
        thrown(x, "node(GREATEST, 0)", () -> x.node(GREATEST, 0), NO_SUCH);
        thrown(x, "node(0, -1)", () -> x.node(0, -1), ARGUMENT);
        thrown(x, "node(0, 5)", () -> x.node(0, 5), ARGUMENT);
        thrown(x, "node(0, LEAST)", () -> x.node(0, LEAST), ARGUMENT);
        thrown(x, "node(0, GREATEST)", () -> x.node(0, GREATEST), ARGUMENT);
    }

    private static void setsAsBits() {
        OddPairs x = of("nodes 12;line 0 11;line 10 11;line 8 9;line 6 7;line 4 5;line 2 3;");
        // 1 is alone; 0 or 10 is missed beside 11.
        due("MISSED", x.sets(0), 1 | 2 | 1024);
        due("BESIDE", x.sets(1), 2048);
        due("the REST", x.sets(2), 1020);
        due("none of twelve", of("nodes 12;all;").sets(0), 0);
        due("all of twelve", of("nodes 12;").sets(0), 4095);
    }

    private static void labelsAsBits() {
        OddPairs x = of("nodes 12;line 0 11;line 11 10;line 2 3;pair 11 10;pair 2 3;");
        due("EVEN", x.sets(3), 4095 - 2048 - 12);
        due("ODD", x.sets(4), 2048);
        due("OUT", x.sets(5), 12);
        due("all EVEN", of("nodes 12;").sets(3), 4095);
        due("all OUT", of(SIX_OF_999).sets(5), 4095);
        x.cut(0, 11);
        due("EVEN follows cut()", x.sets(3), 4095 - 2048 - 1024 - 12);
        due("ODD follows cut()", x.sets(4), 0);
        due("OUT follows cut()", x.sets(5), 2048 + 1024 + 12);
        x.undo();
        due("ODD follows undo()", x.sets(4), 2048);
    }

    private static void setsNoSuch() {
        OddPairs x = new OddPairs();
        thrown(x, "sets(-1)", () -> x.sets(-1), ARGUMENT);
        thrown(x, "sets(6)", () -> x.sets(6), ARGUMENT);
        thrown(x, "sets(LEAST)", () -> x.sets(LEAST), ARGUMENT);
        thrown(x, "sets(GREATEST)", () -> x.sets(GREATEST), ARGUMENT);
    }

    private static void oddOfBits() {
        OddPairs x = of("nodes 12;line 0 11;");
        due("none", x.odd(0), 10);
        due("the first", x.odd(1), 11);
        due("the last", x.odd(2048), 11);
        due("both", x.odd(2049), 10);
        due("all", x.odd(4095), 0);
        x.cut(0, 11);
        due("follows cut()", x.odd(0), 12);
        x.undo();
        due("follows undo()", x.odd(0), 10);
    }

    private static void oddNoSuch() {
        OddPairs x = new OddPairs();
        thrown(x, "odd(4)", () -> x.odd(4), ARGUMENT);
        thrown(x, "odd(-1)", () -> x.odd(-1), ARGUMENT);
        thrown(x, "odd(LEAST)", () -> x.odd(LEAST), ARGUMENT);
        thrown(x, "odd(GREATEST)", () -> x.odd(GREATEST), ARGUMENT);
        due("odd(3)", x.odd(3), 0);
        OddPairs y = of("nodes 12;");
        thrown(y, "odd(4096)", () -> y.odd(4096), ARGUMENT);
        OddPairs z = of("nodes 1;");
        thrown(z, "odd(2)", () -> z.odd(2), ARGUMENT);
        due("odd(1)", z.odd(1), 0);
    }

    private static void fewestBarrier() {
        due("none is needed", of("nodes 12;all;").barrier(0), 0);
        due("none, all MISSED", of("nodes 12;").barrier(0), 0);
        due("the middle of a star", of("nodes 12;line 11 0;line 11 1;line 11 2;").barrier(0), 2048);
        due("two", of("nodes 7;line 0 1;line 0 2;line 0 3;line 3 4;line 4 5;line 4 6;").barrier(0), 17);
    }

    private static void mostBarrier() {
        due("no LINE: none", of("nodes 12;").barrier(1), 0);
        due("one node", of("nodes 1;").barrier(1), 0);
        due("of a row of twelve six", of("nodes 12;ring 0 1 2 3 4 5 6 7 8 9 10 11;").barrier(1), 0x555);
        OddPairs x = of("nodes 4;line 0 1;line 0 2;line 0 3;");
        due("no other than the fewest", x.barrier(1), 1);
        x.cut(0, 3);
        due("follows cut()", x.barrier(1), 1);
        due("an odd whole", of("nodes 11;all;").barrier(1), 0);
    }

    private static void leastBarrier() {
        due("of two that have one", of("nodes 2;all;").barrier(1), 1);
        due("of four that have one", of("nodes 4;all;").barrier(1), 1);
        due("of 5 and 10", of("nodes 4;ring 0 1 2 3;").barrier(1), 5);
        due("of 1 and 8, as few", of("nodes 6;line 0 1;line 0 2;line 0 3;line 3 4;line 3 5;").barrier(0), 1);
    }

    private static void barrierNoSuch() {
        OddPairs x = new OddPairs();
        thrown(x, "barrier(-1)", () -> x.barrier(-1), ARGUMENT);
        thrown(x, "barrier(2)", () -> x.barrier(2), ARGUMENT);
        thrown(x, "barrier(LEAST)", () -> x.barrier(LEAST), ARGUMENT);
        thrown(x, "barrier(GREATEST)", () -> x.barrier(GREATEST), ARGUMENT);
    }

    private static void waysOneToMost() {
        due("without a LINE one", of("nodes 1;").ways(), 1);
        due("twelve without a LINE", of("nodes 12;").ways(), 1);
        due("eleven", of("nodes 11;all;").ways(), 10395);
        due("twelve", of("nodes 12;all;").ways(), 10395);
        OddPairs x = of("nodes 12;all;");
        x.cut(0, 11);
        due("follows cut()", x.ways(), 10395 - 945);
        x.undo();
        due("follows undo()", x.ways(), 10395);
    }

    private static void heavyNoneToMost() {
        due("no LINE, the most", of("nodes 1;").heavy(0), 0);
        due("no LINE, the least", of("nodes 1;").heavy(1), 0);
        due("six of 999, the most", of(SIX_OF_999).heavy(0), 5994);
        due("six of 999, the least", of(SIX_OF_999).heavy(1), 5994);
        OddPairs x = of("nodes 4;line 0 1 5;line 2 3 6;line 1 2 999;line 0 3 0;");
        due("the most", x.heavy(0), 999);
        due("the least", x.heavy(1), 11);
        x.cut(0, 3);
        due("a heavier one with fewer LINES", x.heavy(0), 11);
        ofThree(7, 6, 5);
        ofThree(5, 7, 6);
        ofThree(6, 5, 7);
        ofThree(5, 6, 7);
        due("a lighter one with fewer LINES", of("nodes 4;line 0 1 5;line 2 3 6;line 1 2 0;").heavy(1), 11);
        x.join(0, 1, 0);
        due("follows join()", x.heavy(1), 6);
    }

    private static void ofThree(int a, int b, int c) {
        String text = "nodes 3;line 0 1 " + a + ";line 0 2 " + b + ";line 1 2 " + c + ";";
        OddPairs x = of("nodes 3;line 0 1 900;line 0 2 900;line 1 2 900;");
        x.heavy(0);
        tell(x, text);
        due("the most of " + text, x.heavy(0), 7);
        due("the least of " + text, x.heavy(1), 5);
    }

    private static void heavyNoSuch() {
        OddPairs x = new OddPairs();
        thrown(x, "heavy(-1)", () -> x.heavy(-1), ARGUMENT);
        thrown(x, "heavy(2)", () -> x.heavy(2), ARGUMENT);
        thrown(x, "heavy(LEAST)", () -> x.heavy(LEAST), ARGUMENT);
        thrown(x, "heavy(GREATEST)", () -> x.heavy(GREATEST), ARGUMENT);
    }

    private static void pathRow() {
        OddPairs x = of("nodes 12;line 11 1;line 1 2;line 2 3;line 3 4;line 4 5;line 5 6;line 6 7;line 7 8;line 8 9;"
            + "line 9 10;line 10 0;pair 1 2;pair 3 4;pair 5 6;pair 7 8;pair 9 10;");
        due("eleven LINES", x.path(11, -1), 11);
        due("the first", x.path(11, 0), 11);
        for (int i = 1; i <= 10; i++) {
            due("place " + i, x.path(11, i), i);
        }
        due("the last", x.path(11, 11), 0);
        due("from its other end", x.path(0, 1), 10);
        OddPairs y = new OddPairs();
        due("one LINE", y.path(1, -1), 1);
        due("the first", y.path(1, 0), 1);
        due("the last", y.path(1, 1), 0);
    }

    private static void pathNone() {
        OddPairs x = of("nodes 6;ring 0 1 2;pair 1 2;line 3 4;");
        for (int i : new int[] {-1, 0, 1, -2, 12, LEAST, GREATEST}) {
            due("not FREE, " + i, x.path(1, i), -1);
            due("none, " + i, x.path(0, i), -1);
            due("alone, " + i, x.path(5, i), -1);
        }
        due("one that has", x.path(3, -1), 1);
        due("none is refused", x.status(0), 0);
    }

    private static void pathNoSuch() {
        OddPairs x = of("nodes 4;line 0 1;line 1 2;line 2 3;pair 1 2;");
        due("the last place", x.path(0, 3), 3);
        thrown(x, "path(0, 4)", () -> x.path(0, 4), NO_SUCH);
        thrown(x, "path(0, -2)", () -> x.path(0, -2), NO_SUCH);
        thrown(x, "path(0, LEAST)", () -> x.path(0, LEAST), NO_SUCH);
        thrown(x, "path(0, GREATEST)", () -> x.path(0, GREATEST), NO_SUCH);
        thrown(x, "path(4, -1)", () -> x.path(4, -1), NO_SUCH);
        thrown(x, "path(-1, 0)", () -> x.path(-1, 0), NO_SUCH);
        thrown(x, "path(LEAST, 0)", () -> x.path(LEAST, 0), NO_SUCH);
        thrown(x, "path(GREATEST, 0)", () -> x.path(GREATEST, 0), NO_SUCH);
    }

    private static void flowerRow() {
        OddPairs x = of("nodes 12;ring 11 1 2 3 4 5 6 7 8 9 10;pair 1 2;pair 3 4;pair 5 6;pair 7 8;pair 9 10;");
        due("eleven NODES", x.flower(11, -1), 11);
        due("the NODE itself", x.flower(11, 0), 11);
        for (int i = 1; i <= 10; i++) {
            due("place " + i, x.flower(11, i), i);
        }
        OddPairs y = of("nodes 3;all;pair 0 1;");
        due("three NODES", y.flower(2, -1), 3);
        due("the NODE itself", y.flower(2, 0), 2);
        due("the lesser way round", y.flower(2, 1), 0);
        due("the last", y.flower(2, 2), 1);
    }

    private static void flowerNone() {
        OddPairs x = of("nodes 4;ring 0 1 2;pair 1 2;");
        for (int i : new int[] {-1, 0, 1, -2, 12, LEAST, GREATEST}) {
            due("none, " + i, x.flower(1, i), -1);
            due("alone, " + i, x.flower(3, i), -1);
        }
        due("one that has", x.flower(0, -1), 3);
        due("none is refused", x.status(0), 0);
    }

    private static void flowerNoSuch() {
        OddPairs x = of("nodes 4;ring 0 1 2;pair 1 2;");
        due("the last place", x.flower(0, 2), 2);
        thrown(x, "flower(0, 3)", () -> x.flower(0, 3), NO_SUCH);
        thrown(x, "flower(0, -2)", () -> x.flower(0, -2), NO_SUCH);
        thrown(x, "flower(0, LEAST)", () -> x.flower(0, LEAST), NO_SUCH);
        thrown(x, "flower(0, GREATEST)", () -> x.flower(0, GREATEST), NO_SUCH);
        thrown(x, "flower(4, -1)", () -> x.flower(4, -1), NO_SUCH);
        thrown(x, "flower(-1, 0)", () -> x.flower(-1, 0), NO_SUCH);
        thrown(x, "flower(LEAST, 0)", () -> x.flower(LEAST, 0), NO_SUCH);
        thrown(x, "flower(GREATEST, 0)", () -> x.flower(GREATEST, 0), NO_SUCH);
    }

    private static void printPairs() {
        due("one node", of("nodes 1;").print(), -1);
        due("two nodes", of("nodes 2;").print(), -32);
        due("three, two of them PAIRED", of("nodes 3;line 0 2 0;pair 0 2;").print(), ((2 * 31 - 1) * 31) * 31);
    }

    private static void printLines() {
        long none = ((-1L * 31 - 1) * 31 - 1) * 31 - 1;
        due("no LINE", of("nodes 4;").print(), none);
        due("one of WEIGHT 0", of("nodes 4;line 3 2 0;").print(), none * 31);
        OddPairs x = of("nodes 4;line 3 2 9;line 2 1 8;line 3 0 7;line 1 0 6;");
        // By a, then b: 0 1, 0 3, 1 2, 2 3.
        due("four", x.print(), (((none * 31 + 6) * 31 + 7) * 31 + 8) * 31 + 9);
    }

    private static void printWrapsAround() {
        long sum = 0;
        for (int a = 0; a < 12; a++) {
            sum = 31 * sum + (a % 2 == 0 ? a + 1 : a - 1);
        }
        for (int i = 0; i < 6; i++) {
            sum = 31 * sum + 999;
        }
        due("eighteen numbers", of(SIX_OF_999).print(), sum);
        long all = 0;
        for (int i = 0; i < 78; i++) {
            all = 31 * all + (i < 12 ? -1 : 1);
        }
        due("all that can be", of("nodes 12;all;").print(), all);
    }

    private static void statusCounts() {
        OddPairs x = new OddPairs();
        for (int what = 0; what < 3; what++) {
            due("at first", x.status(what), 0);
        }
        for (int i = 0; i < 3; i++) {
            thrown(x, "node(2, 0)", () -> x.node(2, 0), NO_SUCH);
            thrown(x, "path(0, 2)", () -> x.path(0, 2), NO_SUCH);
            thrown(x, "told(8)", () -> x.told(8), ARGUMENT);
            thrown(x, "part(0)", () -> x.part(0), STATE);
        }
        due("status(0)", x.status(0), 6);
        due("status(1)", x.status(1), 3);
        due("status(2)", x.status(2), 3);
        tell(x, "nodes 1;");
        tell(x, "x");
        x.undo();
        x.undo();
        for (int i = 0; i < 26; i++) {
            x.feed(0, 0, 0, 0, 0);
        }
        due("FAULTS, undo() and feed() refuse nothing", x.status(0) + x.status(1) + x.status(2), 12);
    }

    private static void statusOfOthers() {
        OddPairs x = new OddPairs();
        for (int what : new int[] {-1, 3, 4, LEAST, GREATEST}) {
            due("status(" + what + ")", x.status(what), -1);
        }
        due("which refuses nothing", x.status(0) + x.status(1) + x.status(2), 0);
    }
}
