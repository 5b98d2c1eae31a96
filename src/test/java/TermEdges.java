/** The sentences of the terms, but for those on a TEXT. */
final class TermEdges extends Edges {
    private static final String STAR_OF_TWELVE =
        "nodes 12;line 0 1;line 0 2;line 0 3;line 0 4;line 0 5;line 0 6;line 0 7;line 0 8;line 0 9;line 0 10;line 0 11;";
    private static final String ROW_OF_TWELVE =
        "nodes 12;line 0 1;line 1 2;line 2 3;line 3 4;line 4 5;line 5 6;line 6 7;line 7 8;line 8 9;line 9 10;line 10 11;";

    private TermEdges() {
    }

    static void all() {
        network();
        greatest();
        paths();
        flowers();
        acts();
    }

    private static void network() {
        holds("What it is", "An object is used for at most 512 calls after it has been made;", TermEdges::the512thCall);
        holds("Terms", "NODES (1 to 12), numbered from 0 on;", TermEdges::nodesOneToTwelve);
        holds("Terms", "LINES between two unlike NODES, one at most for two,", TermEdges::oneLineForTwo);
        holds("Terms", "each with a WEIGHT (0 to 999).", TermEdges::weightUpTo999);
        holds("Terms", "A MATCHING is a set of LINES no two of which have a NODE in common.", TermEdges::noNodeInCommon);
        holds("Terms", "PAIRS are the MATCHING that is told;", TermEdges::pairsAreAMatching);
        holds("Terms", "FREE is who is in none of them.", TermEdges::freeIsInNone);
    }

    private static void greatest() {
        holds("Terms", "MOST: how many LINES a MATCHING has at most;", TermEdges::mostNoneToSix);
        holds("Terms", "GREATEST are MATCHINGS with so many.", TermEdges::greatestNotOnlyFull);
        holds("Terms", "MISSING: NODES less twice MOST.", TermEdges::missingNoneToTwelve);
        holds("Terms", "Of a MATCHING is a row: NODE by NODE who it is joined to (NONE counts as more than all);", TermEdges::noneIsMoreThanAll);
        holds("Terms", "FIRST is the GREATEST one whose row is least.", TermEdges::firstIsGreatest);
        holds("Terms", "SETS: 0 MISSED: NODES that are in no LINE of some GREATEST MATCHING;", TermEdges::missedNoneToAll);
        holds("Terms", "1 BESIDE: not MISSED, with a LINE to one that is;", TermEdges::besideIsNotMissed);
        holds("Terms", "2 the REST.", TermEdges::restNoneToAll);
        holds("Terms", "ODD of a set of NODES: how many parts with an odd number of NODES the network without that set has", TermEdges::oddOfNoneAndAll);
        holds("Terms", "(parts: what hangs together by LINES).", TermEdges::partsHangTogether);
        holds("Terms", "A BARRIER is a set whose ODD less how many NODES it has is MISSING.", TermEdges::barrierOfMissing);
    }

    private static void paths() {
        holds("Terms", "A PATH begins with a FREE NODE,", TermEdges::noFreeNoPath);
        holds("Terms", "goes by LINES over unlike NODES,", TermEdges::overUnlikeNodes);
        holds("Terms", "goes by LINES over unlike NODES,", TermEdges::theOtherWayToANode);
        holds("Terms", "by turns by one that is no PAIR, by one that is (the first one is none).", TermEdges::byTurns);
        holds("Terms", "LABELS: EVEN (0) is a NODE to which a PATH of an even number of LINES leads (0, too),", TermEdges::evenByNoLine);
        holds("Terms", "ODD (1) another one to which a PATH leads,", TermEdges::oddIsNotEven);
        holds("Terms", "OUT (2) all others.", TermEdges::outIsTheOthers);
        holds("Terms", "A PATH is BETTER, if it ends with another FREE NODE:", TermEdges::anotherFreeNode);
        holds("Terms", "its LINES that are PAIRS part, the others become PAIRS.", TermEdges::linesChangeSides);
    }

    private static void flowers() {
        holds("Terms", "A FLOWER about a NODE: an odd number (3 or more) of NODES", TermEdges::threeToElevenNodes);
        holds("Terms", "in a ring of LINES, it among them,", TermEdges::ringOfLines);
        holds("Terms", "in a ring of LINES, it among them,", TermEdges::theLongWayIntoARing);
        holds("Terms", "so that of all others each is PAIRED with one beside it in the ring", TermEdges::pairedWithOneBeside);
        holds("Terms", "(it with nobody in the ring).", TermEdges::itWithNobody);
        holds("Terms", "To SHRINK one: all of it but that NODE go;", TermEdges::allButThatGo);
        holds("Terms", "each other NODE with a LINE to one of it has one to that NODE then (WEIGHT: the greatest of these);", TermEdges::greatestWeightStays);
        holds("Terms", "a PAIR of one of it with one that stays is a PAIR of that NODE.", TermEdges::pairOfThatNode);
        holds("Terms", "NODES behind those that go are numbered anew.", TermEdges::numberedAnew);
    }

    private static void acts() {
        holds("Terms", "ACTS: text() without a FAULT, join(), cut(), pair(), part(), better(), finish(), shrink().", TermEdges::whatIsAnAct);
        holds("Terms", "undo() takes the latest one back that is not yet, of the latest 8.", TermEdges::eightAndNoMore);
        holds("Terms", "undo() takes the latest one back that is not yet, of the latest 8.", TermEdges::takenBackOnce);
        holds("Terms", "Asked, nothing stays changed.", TermEdges::askedNothingChanges);
        holds("Terms", "Of several exceptions of one call the one told first is thrown;", TermEdges::theOneToldFirst);
        holds("Terms", "a call that throws changes nothing but status().", TermEdges::throwsChangeNothing);
    }

    private static void the512thCall() {
        OddPairs x = of("nodes 12;all;");
        int made = 3;
        for (; made + 4 <= 510; made += 4) {
            int weight = made % 1000;
            due("join", x.join(0, 11, weight), 66);
            due("barrier", x.barrier(1), 1);
            due("better", x.better(11), 1);
            due("part", x.part(0), 11);
        }
        for (; made < 511; made++) {
            due("told(7)", x.told(7), 8);
        }
        due("the 512th call", x.ways(), 10395);
    }

    private static void nodesOneToTwelve() {
        OddPairs x = of("nodes 1;");
        due("one", x.told(0), 1);
        due("number 0", x.node(0, 0), 0);
        thrown(x, "node(1, 0)", () -> x.node(1, 0), NO_SUCH);
        thrown(x, "node(-1, 0)", () -> x.node(-1, 0), NO_SUCH);
        OddPairs y = of("nodes 12;all;");
        due("twelve", y.told(0), 12);
        due("number 0", y.node(0, 0), 11);
        due("number 11", y.node(11, 0), 11);
        thrown(y, "node(12, 0)", () -> y.node(12, 0), NO_SUCH);
        faultOf("nodes 0;", 2, 6);
        faultOf("nodes 13;", 2, 6);
    }

    private static void oneLineForTwo() {
        OddPairs x = of("nodes 3;line 0 1;line 1 0;");
        due("told twice", x.told(1), 1);
        due("joined anew", x.join(1, 0, 5), 1);
        due("either way", x.line(0, 1, 1), x.line(1, 0, 1));
        due("of a node", x.node(0, 0), 1);
        due("gone at once", x.cut(0, 1), 0);
        thrown(x, "join(2, 2, 1)", () -> x.join(2, 2, 1), ARGUMENT);
    }

    private static void weightUpTo999() {
        OddPairs x = new OddPairs();
        due("0", x.join(0, 1, 0), 1);
        due("it is a LINE", x.line(0, 1, 0), 1);
        due("of WEIGHT 0", x.line(0, 1, 1), 0);
        due("999", x.join(0, 1, 999), 1);
        due("of WEIGHT 999", x.line(0, 1, 1), 999);
        thrown(x, "join(0, 1, -1)", () -> x.join(0, 1, -1), ARGUMENT);
        thrown(x, "join(0, 1, 1000)", () -> x.join(0, 1, 1000), ARGUMENT);
    }

    private static void noNodeInCommon() {
        OddPairs x = of(STAR_OF_TWELVE);
        due("of a star one LINE", x.told(3), 1);
        due("each by itself", x.ways(), 11);
        due("none at all is one, too", of("nodes 12;").ways(), 1);
        due("three in a ring", of("nodes 3;all;").told(3), 1);
    }

    private static void pairsAreAMatching() {
        OddPairs x = of("nodes 4;all;pair 0 1;");
        thrown(x, "pair(1, 2)", () -> x.pair(1, 2), STATE);
        thrown(x, "pair(2, 0)", () -> x.pair(2, 0), STATE);
        due("pair(2, 3)", x.pair(2, 3), 2);
        faultOf("nodes 4;all;pair 0 1;pair 1 2;", 3, 30);
    }

    private static void freeIsInNone() {
        OddPairs x = of("nodes 3;all;pair 0 1;");
        mates(x, 1, 1, 0, -1);
        x.part(1);
        mates(x, 1, -1, -1, -1);
        x.pair(1, 2);
        mates(x, 1, -1, 2, 1);
        x.cut(1, 2);
        mates(x, 1, -1, -1, -1);
    }

    private static void mostNoneToSix() {
        due("one node", of("nodes 1;").told(3), 0);
        due("no LINE", of("nodes 12;").told(3), 0);
        due("eleven nodes", of("nodes 11;all;").told(3), 5);
        due("twelve nodes", of("nodes 12;all;").told(3), 6);
        due("PAIRS don't count", of("nodes 4;line 0 1;line 1 2;line 2 3;pair 1 2;").told(3), 2);
    }

    private static void greatestNotOnlyFull() {
        OddPairs x = of("nodes 4;line 0 1 5;line 1 2 900;line 2 3 6;");
        due("one of two that can't grow", x.ways(), 1);
        due("some have 1 2", x.line(1, 2, 3), 0);
        due("all have 0 1", x.line(0, 1, 4), 1);
        due("the heaviest of them", x.heavy(0), 11);
    }

    private static void missingNoneToTwelve() {
        due("one node", of("nodes 1;").told(4), 1);
        due("no LINE", of("nodes 12;").told(4), 12);
        due("a star", of(STAR_OF_TWELVE).told(4), 10);
        due("all", of("nodes 12;all;").told(4), 0);
        due("eleven", of("nodes 11;all;").told(4), 1);
    }

    private static void noneIsMoreThanAll() {
        OddPairs x = of("nodes 12;line 0 11;line 1 11;");
        mates(x, 4, 11, -1, -1, -1, -1, -1, -1, -1, -1, -1, -1, 0);
        mates(of("nodes 3;line 1 2;line 0 2;"), 4, 2, -1, 0);
        mates(of("nodes 1;"), 4, -1);
    }

    private static void firstIsGreatest() {
        mates(of("nodes 4;all;"), 4, 1, 0, 3, 2);
        mates(of("nodes 4;line 0 1;line 0 2;line 1 3;"), 4, 2, 3, 0, 1);
        mates(of("nodes 5;line 1 4;line 1 3;line 2 4;line 2 3;"), 4, -1, 3, 4, 1, 2);
        mates(of("nodes 4;all;pair 0 3;pair 1 2;"), 4, 1, 0, 3, 2);
        mates(of("nodes 5;line 3 1;line 1 2;line 2 4;"), 4, -1, 3, 4, 1, 2);
    }

    private static void missedNoneToAll() {
        due("no LINE: all", of("nodes 12;").sets(0), 4095);
        due("an odd whole: all", of("nodes 11;all;").sets(0), 2047);
        due("an even whole: none", of("nodes 12;all;").sets(0), 0);
        due("one node", of("nodes 1;").sets(0), 1);
        due("not by a lesser MATCHING", of("nodes 4;line 0 1;line 1 2;line 2 3;").sets(0), 0);
        due("PAIRS don't count", of("nodes 3;line 0 1;line 1 2;pair 0 1;").sets(0), 5);
    }

    private static void besideIsNotMissed() {
        due("MISSED ones beside MISSED ones", of("nodes 3;all;").sets(1), 0);
        due("the middle of a star", of(STAR_OF_TWELVE).sets(1), 1);
        due("none MISSED", of("nodes 12;all;").sets(1), 0);
        due("two", of("nodes 7;line 0 1;line 0 2;line 0 3;line 3 4;line 4 5;line 4 6;").sets(1), 17);
        due("behind one that is BESIDE", of("nodes 5;line 0 1;line 0 2;line 0 3;line 3 4;").sets(1), 1);
    }

    private static void restNoneToAll() {
        due("all", of("nodes 12;all;").sets(2), 4095);
        due("none", of("nodes 11;all;").sets(2), 0);
        due("behind one that is BESIDE", of("nodes 5;line 0 1;line 0 2;line 0 3;line 3 4;").sets(2), 24);
    }

    private static void oddOfNoneAndAll() {
        OddPairs x = of("nodes 12;");
        due("without none", x.odd(0), 12);
        due("without one", x.odd(1), 11);
        due("without the last one", x.odd(2048), 11);
        due("without all", x.odd(4095), 0);
        OddPairs y = of("nodes 5;line 0 1;line 2 3;");
        due("even parts don't count", y.odd(0), 1);
        due("without the odd one", y.odd(16), 0);
    }

    private static void partsHangTogether() {
        OddPairs x = of(ROW_OF_TWELVE);
        due("one part", x.odd(0), 0);
        due("five and six", x.odd(1 << 5), 1);
        due("each other one", x.odd(0x555), 6);
        due("a ring holds together", of("nodes 12;ring 0 1 2 3 4 5 6 7 8 9 10 11;").odd(1 << 5), 1);
        due("not by the set's own LINES", of(STAR_OF_TWELVE).odd(1), 11);
    }

    private static void barrierOfMissing() {
        for (String text : new String[] {"nodes 1;", "nodes 2;all;", "nodes 12;", "nodes 12;all;", STAR_OF_TWELVE,
            ROW_OF_TWELVE, "nodes 6;ring 0 1 2;line 2 3;ring 3 4 5;"}) {
            OddPairs x = of(text);
            for (int what = 0; what < 2; what++) {
                int set = x.barrier(what);
                due(text + " barrier(" + what + ")", x.odd(set) - Integer.bitCount(set), x.told(4));
            }
        }
    }

    private static void noFreeNoPath() {
        OddPairs x = of("nodes 4;all;pair 0 1;pair 2 3;");
        due("EVEN", x.sets(3), 0);
        due("ODD", x.sets(4), 0);
        due("OUT", x.sets(5), 15);
        due("path(0, NONE)", x.path(0, -1), -1);
    }

    private static void overUnlikeNodes() {
        // Round the ring and back by 2 and 1 to 5 would be a walk over like ones.
        OddPairs x = of("nodes 6;line 0 1;line 1 2;ring 2 3 4;line 1 5;pair 1 2;pair 3 4;");
        due("none from 0", x.path(0, -1), -1);
        due("none from 5", x.path(5, -1), -1);
        due("EVEN", x.sets(3), 61);
        due("ODD", x.sets(4), 2);
        due("OUT", x.sets(5), 0);
    }

    private static void theOtherWayToANode() {
        // 0 1 2 5 6 is as short as 0 3 4 5 6 and less, but only the latter can go on by 2 and 1.
        OddPairs x = of("nodes 8;line 0 1;line 1 2;line 2 5;line 5 6;line 0 3;line 3 4;line 4 5;line 6 2;line 1 7;"
            + "pair 1 2;pair 3 4;pair 5 6;");
        due("path(0, NONE)", x.path(0, -1), 7);
        int[] want = {0, 3, 4, 5, 6, 2, 1, 7};
        for (int i = 0; i < want.length; i++) {
            due("path(0, " + i + ")", x.path(0, i), want[i]);
        }
        due("all are EVEN", x.sets(3), 255);
        due("1 by that PATH alone", x.node(1, 2), 0);
        due("better(0)", x.better(0), 4);
        mates(x, 1, 3, 7, 6, 0, 5, 4, 2, 1);
    }

    private static void byTurns() {
        OddPairs x = of("nodes 5;line 0 1;line 1 2;line 2 3;line 3 4;pair 1 2;");
        due("three LINES from 0", x.path(0, -1), 3);
        due("one from 3", x.path(3, -1), 1);
        OddPairs y = of("nodes 6;line 0 1;line 1 2;line 1 3;line 4 5;line 3 4;pair 1 2;pair 4 5;");
        due("not by two that are no PAIRS", y.path(0, -1), -1);
        due("nor by two others", y.path(3, -1), -1);
        due("OUT", y.sets(5), 0);
        due("ODD", y.sets(4), 1 << 1 | 1 << 4);
    }

    private static void evenByNoLine() {
        due("a lone one", of("nodes 1;").node(0, 2), 0);
        due("all that are FREE", of("nodes 12;all;").sets(3), 4095);
        OddPairs x = of("nodes 3;line 0 1;line 1 2;pair 1 2;");
        due("by two LINES", x.node(2, 2), 0);
        due("and by none", x.node(0, 2), 0);
    }

    private static void oddIsNotEven() {
        OddPairs x = of("nodes 3;line 0 1;line 1 2;pair 1 2;");
        due("by one LINE", x.node(1, 2), 1);
        due("as bits", x.sets(4), 2);
        x.join(0, 2, 1);
        due("by one and by two", x.node(1, 2), 0);
        due("none then", x.sets(4), 0);
        due("by one, and FREE", of("nodes 2;all;").sets(4), 0);
    }

    private static void outIsTheOthers() {
        OddPairs x = of("nodes 4;line 0 1;line 2 3;pair 0 1;");
        due("no PATH to 0", x.node(0, 2), 2);
        due("as bits", x.sets(5), 3);
        due("all lead", of("nodes 2;").sets(5), 0);
    }

    private static void anotherFreeNode() {
        OddPairs x = of("nodes 3;ring 0 1 2;pair 1 2;");
        due("not back to itself", x.path(0, -1), -1);
        thrown(x, "better(0)", () -> x.better(0), STATE);
        due("not one node alone", of("nodes 1;").path(0, -1), -1);
        due("not one that is PAIRED", of("nodes 3;line 0 1;line 1 2;pair 1 2;").path(0, -1), -1);
    }

    private static void linesChangeSides() {
        OddPairs x = of(ROW_OF_TWELVE + "pair 1 2;pair 3 4;pair 5 6;pair 7 8;pair 9 10;");
        due("eleven LINES", x.path(0, -1), 11);
        due("one PAIR more", x.better(0), 6);
        mates(x, 1, 1, 0, 3, 2, 5, 4, 7, 6, 9, 8, 11, 10);
        OddPairs y = of("nodes 4;all;pair 2 3;");
        due("by one LINE", y.better(1), 2);
        mates(y, 1, 1, 0, 3, 2);
    }

    private static void threeToElevenNodes() {
        due("two", of("nodes 2;all;").flower(0, -1), -1);
        due("three", of("nodes 3;all;pair 1 2;").flower(0, -1), 3);
        due("four", of("nodes 4;ring 0 1 2 3;pair 1 2;").flower(0, -1), -1);
        OddPairs x = of("nodes 11;ring 0 1 2 3 4 5 6 7 8 9 10;pair 1 2;pair 3 4;pair 5 6;pair 7 8;pair 9 10;");
        due("eleven", x.flower(0, -1), 11);
        due("all go", x.shrink(0), 1);
        OddPairs y = of("nodes 12;ring 11 1 2 3 4 5 6 7 8 9 10;line 0 11;pair 0 11;pair 1 2;pair 3 4;pair 5 6;pair 7 8;pair 9 10;");
        due("eleven of twelve", y.flower(11, -1), 11);
        due("two are left", y.shrink(11), 2);
        due("as a PAIR", y.line(0, 1, 2), 1);
    }

    private static void ringOfLines() {
        OddPairs x = of("nodes 5;ring 0 1 2 3 4;pair 1 2;pair 3 4;");
        due("closed", x.flower(0, -1), 5);
        due("not about another one", x.flower(1, -1), -1);
        x.cut(4, 0);
        due("open", x.flower(0, -1), -1);
        x.undo();
        x.cut(2, 3);
        due("open elsewhere", x.flower(0, -1), -1);
    }

    private static void theLongWayIntoARing() {
        // 6 is reached by 0 8 7 5 first, but the lesser row comes to it by 4 and 5.
        OddPairs x = of("nodes 9;ring 0 1 2 3 4 5 6 7 8;line 5 7;pair 1 2;pair 3 4;pair 5 6;pair 7 8;");
        due("flower(0, NONE)", x.flower(0, -1), 9);
        for (int i = 0; i < 9; i++) {
            due("flower(0, " + i + ")", x.flower(0, i), i);
        }
    }

    private static void pairedWithOneBeside() {
        OddPairs x = of("nodes 5;ring 0 1 2 3 4;line 1 3;line 2 4;pair 1 3;pair 2 4;");
        int[] want = {0, 1, 3, 2, 4};
        for (int i = 0; i < 5; i++) {
            due("flower(0, " + i + ")", x.flower(0, i), want[i]);
        }
        x.cut(2, 3);
        due("with ones across alone", x.flower(0, -1), -1);
        due("with nobody", of("nodes 3;ring 0 1 2;").flower(0, -1), -1);
        due("with one outside", of("nodes 5;ring 0 1 2;line 1 3;line 2 4;pair 1 3;pair 2 4;").flower(0, -1), -1);
    }

    private static void itWithNobody() {
        OddPairs x = of("nodes 4;all;pair 0 1;");
        due("with one in the ring", x.flower(0, -1), -1);
        due("FREE", x.flower(2, -1), 3);
        due("with one outside", of("nodes 4;all;pair 0 3;pair 1 2;").flower(0, -1), 3);
        due("of a smaller ring", of("nodes 5;all;pair 0 1;pair 2 3;").flower(0, 1), 2);
    }

    private static void allButThatGo() {
        OddPairs x = of("nodes 6;ring 1 2 3;line 0 1;line 4 5;pair 2 3;pair 4 5;");
        due("two go", x.shrink(1), 4);
        due("their LINES, too", x.told(1), 2);
        due("their PAIR, too", x.told(2), 1);
        OddPairs y = of("nodes 3;all;pair 0 1;");
        due("all but one", y.shrink(2), 1);
        due("no LINE to itself", y.told(1), 0);
    }

    private static void greatestWeightStays() {
        OddPairs x = of("nodes 7;ring 0 1 2;pair 1 2;line 3 0 7;line 3 1 9;line 3 2 8;line 4 1 0;line 4 5 6;line 0 6 999;line 2 6 0;");
        due("shrink(0)", x.shrink(0), 5);
        due("the greatest", x.line(0, 1, 1), 9);
        due("0 is one, too", x.line(0, 2, 1), 0);
        due("no LINE to it", x.line(0, 3, 0), 0);
        due("others stay", x.line(2, 3, 1), 6);
        due("its own is the greatest", x.line(0, 4, 1), 999);
        due("lines", x.told(1), 4);
    }

    private static void pairOfThatNode() {
        OddPairs x = of("nodes 6;ring 3 1 2;line 5 3;line 0 4;pair 1 2;pair 3 5;pair 0 4;");
        due("shrink(3)", x.shrink(3), 4);
        mates(x, 1, 2, 3, 0, 1);
        due("PAIRS", x.told(2), 2);
    }

    private static void numberedAnew() {
        OddPairs x = of("nodes 8;line 0 2 10;line 2 4 11;line 4 6 12;line 6 7 13;ring 4 1 5;pair 1 5;pair 6 7;");
        due("shrink(4)", x.shrink(4), 6);
        due("0 stays 0, 2 is 1", x.line(0, 1, 1), 10);
        due("4 is 3", x.line(1, 3, 1), 11);
        due("6 is 4", x.line(3, 4, 1), 12);
        due("7 is 5", x.line(4, 5, 1), 13);
        mates(x, 1, -1, -1, -1, -1, 5, 4);
        thrown(x, "node(6, 0)", () -> x.node(6, 0), NO_SUCH);
    }

    private static void whatIsAnAct() {
        OddPairs x = new OddPairs();
        tell(x, "nodes 3;all;");
        due("text()", x.told(7), 1);
        x.join(0, 1, 1);
        due("join() of what there is", x.told(7), 2);
        x.pair(1, 2);
        due("pair()", x.told(7), 3);
        x.part(1);
        due("part()", x.told(7), 4);
        x.better(0);
        due("better()", x.told(7), 5);
        x.finish();
        due("finish() of what there is", x.told(7), 6);
        x.shrink(2);
        due("shrink()", x.told(7), 7);
        tell(x, "nodes 3");
        due("text() with a FAULT", x.told(7), 7);
        x.feed(0, 0, 0, 0, 0);
        due("feed()", x.told(7), 7);
        x.undo();
        x.cut(1, 2);
        due("undo() and cut()", x.told(7), 7);
    }

    private static void eightAndNoMore() {
        OddPairs x = new OddPairs();
        for (int i = 1; i <= 9; i++) {
            x.join(0, 1, i);
            due("told(7) behind act " + i, x.told(7), Math.min(i, 8));
        }
        for (int i = 8; i >= 1; i--) {
            due("undo()", x.undo(), i - 1);
            due("weight", x.line(0, 1, 1), i);
        }
        due("undo() of the ninth from the end", x.undo(), -1);
        due("it stays", x.line(0, 1, 1), 1);
    }

    private static void takenBackOnce() {
        OddPairs x = new OddPairs();
        x.join(0, 1, 10);
        x.join(0, 1, 20);
        due("undo()", x.undo(), 1);
        x.join(0, 1, 30);
        due("undo() of the new one", x.undo(), 1);
        due("as ahead of it", x.line(0, 1, 1), 10);
        due("undo() of the first one, not of one that is back", x.undo(), 0);
        due("as at first", x.line(0, 1, 1), 1);
        due("undo() of none", x.undo(), -1);
    }

    private static void askedNothingChanges() {
        OddPairs x = of("nodes 6;ring 0 1 2;line 2 3 7;line 3 4;line 4 5;pair 1 2;pair 3 4;");
        x.feed(1, 2, 3, 4, 5);
        String before = look(x);
        askAll(x);
        same("the state", look(x), before);
        due("the next answer", x.better(0), 3);
        mates(x, 1, 1, 0, 3, 2, 5, 4);
    }

    private static void askAll(OddPairs x) {
        for (int what = 0; what < 5; what++) {
            x.line(2, 3, what);
            x.node(2, what);
            x.sets(what + 1);
            x.path(0, what);
            x.status(what);
        }
        x.odd(4);
        x.barrier(0);
        x.barrier(1);
        x.heavy(0);
        x.heavy(1);
        x.ways();
        x.flower(0, 1);
        x.print();
        x.fault();
    }

    private static void theOneToldFirst() {
        OddPairs x = new OddPairs();
        thrown(x, "join(2, 2, -1)", () -> x.join(2, 2, -1), NO_SUCH);
        thrown(x, "join(0, 2, -1)", () -> x.join(0, 2, -1), NO_SUCH);
        thrown(x, "cut(2, 2)", () -> x.cut(2, 2), NO_SUCH);
        thrown(x, "cut(0, 0)", () -> x.cut(0, 0), ARGUMENT);
        thrown(x, "pair(-1, -1)", () -> x.pair(-1, -1), NO_SUCH);
        thrown(x, "pair(0, 0)", () -> x.pair(0, 0), ARGUMENT);
        thrown(x, "line(2, 2, 9)", () -> x.line(2, 2, 9), NO_SUCH);
        thrown(x, "line(0, 2, 9)", () -> x.line(0, 2, 9), NO_SUCH);
        thrown(x, "node(2, 9)", () -> x.node(2, 9), NO_SUCH);
        x.pair(0, 1);
        thrown(x, "pair(1, 1)", () -> x.pair(1, 1), ARGUMENT);
        thrown(x, "part(2)", () -> x.part(2), NO_SUCH);
        thrown(x, "better(2)", () -> x.better(2), NO_SUCH);
        thrown(x, "shrink(2)", () -> x.shrink(2), NO_SUCH);
    }

    private static void throwsChangeNothing() {
        OddPairs x = of("nodes 4;line 0 1;line 2 3;pair 0 1;");
        feedText(x, "nodes 1;");
        thrown(x, "text(21)", () -> x.text(21), ARGUMENT);
        thrown(x, "join(0, 2, 1000)", () -> x.join(0, 2, 1000), ARGUMENT);
        thrown(x, "cut(0, 2)", () -> x.cut(0, 2), STATE);
        thrown(x, "pair(0, 2)", () -> x.pair(0, 2), STATE);
        thrown(x, "part(2)", () -> x.part(2), STATE);
        thrown(x, "better(0)", () -> x.better(0), STATE);
        thrown(x, "shrink(0)", () -> x.shrink(0), STATE);
        thrown(x, "told(8)", () -> x.told(8), ARGUMENT);
        due("undo() takes the text back", x.undo(), 0);
        due("as at first", x.told(0), 2);
        due("the TAPE stays", x.told(6), 20);
        due("status(1)", x.status(1), 3);
        due("status(2)", x.status(2), 5);
    }
}
