/** The sentences of promises 1 to 12: a new object, the tape, the acts. */
final class ActEdges extends Edges {
    private static final int BLANKS = 0x20202020;
    private static final int LEAST = Integer.MIN_VALUE;
    private static final int GREATEST = Integer.MAX_VALUE;

    private ActEdges() {
    }

    static void all() {
        tape();
        lines();
        pairs();
        better();
        flowers();
    }

    private static void tape() {
        holds("Promise 1", "makes an object in the state that the terms give.", ActEdges::newObject);
        holds("Promise 2", "Twenty bytes come on the TAPE, of each number the highest first: how many there are;", ActEdges::highestFirst);
        holds("Promise 2", "NONE, doing nothing, if there would be more than 500.", ActEdges::tapeIsFull);
        holds("Promise 3", "The first n bytes of the TAPE (empty then) tell all anew: how many LINES;", ActEdges::textTellsAnew);
        holds("Promise 3", "The first n bytes of the TAPE", ActEdges::notTheNextByte);
        holds("Promise 3", "or the FAULT less 10 (all but the TAPE stays).", ActEdges::faultLessTen);
        holds("Promise 3", "IllegalArgumentException: n is not 0 to the TAPE's bytes (it stays).", ActEdges::textOfTooMany);
        holds("Promise 4", "The place of the FAULT of the latest text() that threw nothing;", ActEdges::latestFault);
        holds("Promise 4", "NONE without one, and ahead of any.", ActEdges::noFault);
    }

    private static void lines() {
        holds("Promise 5", "A LINE between two NODES has a WEIGHT (it comes, if there is none): how many LINES there are.", ActEdges::joinCounts);
        holds("Promise 5", "NoSuchElementException: no such NODE, place (so below).", ActEdges::joinNoSuchNode);
        holds("Promise 5", "IllegalArgumentException: both are one, the WEIGHT (so below: a number that is none such).", ActEdges::joinNoSuchNumber);
        holds("Promise 6", "A LINE is gone (a PAIR, too): how many there are.", ActEdges::cutCounts);
        holds("Promise 6", "IllegalStateException: there is none (so below).", ActEdges::cutNone);
        holds("Promise 6", "throws NoSuchElementException, IllegalArgumentException", ActEdges::cutNoSuchNode);
    }

    private static void pairs() {
        holds("Promise 7", "A LINE is a PAIR: how many PAIRS there are.", ActEdges::pairCounts);
        holds("Promise 7", "IllegalStateException: also one of both is not FREE.", ActEdges::pairNotFree);
        holds("Promise 7", "throws NoSuchElementException, IllegalArgumentException", ActEdges::pairNoSuchNode);
        holds("Promise 8", "The PAIR of a NODE parts: with whom it was.", ActEdges::partTellsWhom);
        holds("Promise 8", "IllegalStateException: it is FREE.", ActEdges::partFree);
        holds("Promise 8", "throws NoSuchElementException", ActEdges::partNoSuchNode);
    }

    private static void better() {
        holds("Promise 9", "The BETTER PATH from a NODE that has the fewest LINES,", ActEdges::fewestLines);
        holds("Promise 9", "of several the one whose row of NODES is least,", ActEdges::leastRow);
        holds("Promise 9", "betters PAIRS: how many there are.", ActEdges::betterCounts);
        holds("Promise 9", "IllegalStateException: it is not FREE, there is none.", ActEdges::noBetterPath);
        holds("Promise 9", "throws NoSuchElementException", ActEdges::betterNoSuchNode);
        holds("Promise 10", "PAIRS become FIRST: how many more there are.", ActEdges::finishNoneToSix);
    }

    private static void flowers() {
        holds("Promise 11", "The FLOWER about a NODE that has the fewest NODES,", ActEdges::fewestNodes);
        holds("Promise 11", "of several the one whose row from it on (either way round, the lesser one) is least,", ActEdges::leastRing);
        holds("Promise 11", "is SHRUNK: how many NODES there are.", ActEdges::shrinkCounts);
        holds("Promise 11", "IllegalStateException: there is none.", ActEdges::noFlower);
        holds("Promise 11", "throws NoSuchElementException", ActEdges::shrinkNoSuchNode);
        holds("Promise 12", "How many ACTS still can be taken back behind it;", ActEdges::undoEightToNone);
        holds("Promise 12", "How many ACTS still can be taken back behind it;", ActEdges::undoOfEachAct);
        holds("Promise 12", "NONE: none could.", ActEdges::undoNone);
    }

    private static void newObject() {
        OddPairs x = new OddPairs();
        int[] want = {2, 1, 0, 1, 0, 0, 0, 0};
        for (int what = 0; what < want.length; what++) {
            due("told(" + what + ")", x.told(what), want[what]);
        }
        due("line(0, 1, 1)", x.line(0, 1, 1), 1);
        due("fault()", x.fault(), -1);
        due("print()", x.print(), (-1 * 31 - 1) * 31 + 1);
        due("odd(1)", x.odd(1), 1);
        due("barrier(1) asked first", new OddPairs().barrier(1), 1);
        due("ways() asked first", new OddPairs().ways(), 1);
        due("sets(2) asked first", new OddPairs().sets(2), 3);
        due("finish() called first", new OddPairs().finish(), 1);
        due("undo()", x.undo(), -1);
        for (int what = 0; what < 3; what++) {
            due("status(" + what + ")", x.status(what), 0);
        }
        x.join(0, 1, 9);
        due("another one is not touched", new OddPairs().line(0, 1, 1), 1);
    }

    private static void highestFirst() {
        OddPairs x = new OddPairs();
        due("feed()", x.feed(0x6e6f6465, 0x7320323b, 0x616c6c3b, BLANKS, 0x20202021), 20);
        due("its last byte", x.text(20), -9);
        due("stands at 19", x.fault(), 19);
        due("anew", x.feed(0x6e6f6465, 0x7320323b, 0x616c6c3b, 0xff000000, 0x80ffffff), 20);
        due("bytes over 127", x.text(20), -9);
        due("stand at 12", x.fault(), 12);
        due("anew", x.feed(0x6e6f6465, 0x7320323b, 0x616c6c3b, LEAST, GREATEST), 20);
        due("more", x.feed(-1, -1, -1, -1, -1), 40);
        due("told(6)", x.told(6), 40);
        due("as far as they are good", x.text(12), 1);
    }

    private static void tapeIsFull() {
        OddPairs x = new OddPairs();
        x.feed(0x6e6f6465, 0x73203132, 0x3b616c6c, 0x3b202020, BLANKS);
        for (int i = 2; i <= 24; i++) {
            due("feed() " + i, x.feed(BLANKS, BLANKS, BLANKS, BLANKS, BLANKS), 20 * i);
        }
        due("up to 500", x.feed(BLANKS, BLANKS, BLANKS, BLANKS, BLANKS), 500);
        String before = look(x);
        due("beyond", x.feed(1, 2, 3, 4, 5), -1);
        due("beyond again", x.feed(0, 0, 0, 0, 0), -1);
        same("the state", look(x), before);
        due("status()", x.status(0) + x.status(1) + x.status(2), 0);
        due("what was on it", x.text(500), 66);
        due("and then it takes more", x.feed(0, 0, 0, 0, 0), 20);
    }

    private static void textTellsAnew() {
        OddPairs x = of("nodes 4;all;pair 0 1;");
        feedText(x, "nodes 2;line 0 1 5; all this is not told, but it goes");
        due("text(19)", x.text(19), 1);
        due("the TAPE is empty", x.told(6), 0);
        due("NODES anew", x.told(0), 2);
        due("LINES anew", x.line(0, 1, 1), 5);
        due("PAIRS anew", x.told(2), 0);
        feedText(x, "nodes 12;all;");
        due("66 LINES", x.text(13), 66);
        feedText(x, "nodes 1;");
        due("no LINE", x.text(8), 0);
    }

    private static void notTheNextByte() {
        // By n: the fault's place, were the text cut off there.
        int[] places = {0, 0, 0, 0, 0, 5, 6, 7, -1, 8, 8, 8, 12, 13, 14, 15, 16, 17, 18, 19, -1, -1, 21, 21, 24, -1};
        String text = "nodes 2;line 0 1 12; all;";
        for (int n = 0; n < places.length; n++) {
            OddPairs x = new OddPairs();
            feedText(x, text);
            due("text(" + n + ")", x.text(n), places[n] >= 0 ? -9 : n < 20 ? 0 : 1);
            due("fault() of " + n, x.fault(), places[n]);
        }
        OddPairs y = new OddPairs();
        feedText(y, "nodes 12;");
        due("a number that goes on behind", y.text(7), -9);
        due("its end is the text's", y.fault(), 7);
        OddPairs z = new OddPairs();
        feedText(z, "nodes 2;line 0 1 9999;");
        due("a weight that goes on behind", z.text(20), -9);
        due("is not too great", z.fault(), 20);
    }

    private static void faultLessTen() {
        OddPairs x = of("nodes 4;all;pair 0 1;");
        String[] texts = {"nodes 2;x", "nodes 2;line 0 2;", "nodes 2;pair 0 1;"};
        int[] places = {8, 15, 17};
        for (int i = 0; i < 3; i++) {
            String network = x.print() + " " + x.told(0) + " " + x.told(7);
            feedText(x, texts[i]);
            due(texts[i], x.text(texts[i].length()), i - 9);
            due("its place", x.fault(), places[i]);
            due("the TAPE is empty", x.told(6), 0);
            same("the network", x.print() + " " + x.told(0) + " " + x.told(7), network);
        }
        x.feed(BLANKS, BLANKS, BLANKS, BLANKS, BLANKS);
        due("none at all", x.text(0), -9);
        due("at 0", x.fault(), 0);
        due("goes, too", x.told(6), 0);
        due("status()", x.status(0) + x.status(1) + x.status(2), 0);
    }

    private static void textOfTooMany() {
        OddPairs x = new OddPairs();
        thrown(x, "text(1) of none", () -> x.text(1), ARGUMENT);
        thrown(x, "text(-1)", () -> x.text(-1), ARGUMENT);
        feedText(x, "nodes 1;");
        thrown(x, "text(21) of 20", () -> x.text(21), ARGUMENT);
        thrown(x, "text(-1)", () -> x.text(-1), ARGUMENT);
        thrown(x, "text(LEAST)", () -> x.text(LEAST), ARGUMENT);
        thrown(x, "text(GREATEST)", () -> x.text(GREATEST), ARGUMENT);
        due("what stays can be told", x.text(8), 0);
        due("text(0)", x.text(0), -9);
        x.feed(0x6e6f6465, 0x73203132, 0x3b616c6c, 0x3b202020, BLANKS);
        due("all of it", x.text(20), 66);
    }

    private static void latestFault() {
        OddPairs x = new OddPairs();
        tell(x, "nodes 2;x");
        due("the first one", x.fault(), 8);
        tell(x, "nodes 13;");
        due("the latest one", x.fault(), 6);
        thrown(x, "text(1)", () -> x.text(1), ARGUMENT);
        due("behind one that threw", x.fault(), 6);
        x.join(0, 1, 5);
        x.undo();
        due("behind other ACTS", x.fault(), 6);
        tell(x, " ".repeat(500));
        due("at 500", x.fault(), 500);
        x.text(0);
        due("at 0", x.fault(), 0);
    }

    private static void noFault() {
        OddPairs x = new OddPairs();
        due("ahead of any", x.fault(), -1);
        thrown(x, "text(1)", () -> x.text(1), ARGUMENT);
        due("behind one that threw", x.fault(), -1);
        tell(x, "x");
        tell(x, "nodes 1;");
        due("behind a good one", x.fault(), -1);
    }

    private static void joinCounts() {
        OddPairs x = of("nodes 12;");
        int lines = 0;
        for (int a = 0; a < 12; a++) {
            for (int b = a + 1; b < 12; b++) {
                lines++;
                due("join", a % 2 == 0 ? x.join(a, b, lines) : x.join(b, a, lines), lines);
            }
        }
        due("the last one's WEIGHT", x.line(10, 11, 1), 66);
        due("one that there is", x.join(11, 0, 999), 66);
        due("has another WEIGHT", x.line(0, 11, 1), 999);
        x.pair(0, 11);
        due("a PAIR", x.join(0, 11, 0), 66);
        due("stays one", x.line(0, 11, 2), 1);
        due("with its new WEIGHT", x.told(5), 0);
    }

    private static void joinNoSuchNode() {
        OddPairs x = of("nodes 3;");
        thrown(x, "join(3, 0, 1)", () -> x.join(3, 0, 1), NO_SUCH);
        thrown(x, "join(0, 3, 1)", () -> x.join(0, 3, 1), NO_SUCH);
        thrown(x, "join(-1, 0, 1)", () -> x.join(-1, 0, 1), NO_SUCH);
        thrown(x, "join(0, -1, 1)", () -> x.join(0, -1, 1), NO_SUCH);
        thrown(x, "join(LEAST, 0, 1)", () -> x.join(LEAST, 0, 1), NO_SUCH);
        thrown(x, "join(0, GREATEST, 1)", () -> x.join(0, GREATEST, 1), NO_SUCH);
        due("join(2, 0, 1)", x.join(2, 0, 1), 1);
    }

    private static void joinNoSuchNumber() {
        OddPairs x = of("nodes 3;");
        thrown(x, "join(0, 0, 1)", () -> x.join(0, 0, 1), ARGUMENT);
        thrown(x, "join(2, 2, 1)", () -> x.join(2, 2, 1), ARGUMENT);
        thrown(x, "join(0, 1, -1)", () -> x.join(0, 1, -1), ARGUMENT);
        thrown(x, "join(0, 1, 1000)", () -> x.join(0, 1, 1000), ARGUMENT);
        thrown(x, "join(0, 1, LEAST)", () -> x.join(0, 1, LEAST), ARGUMENT);
        thrown(x, "join(0, 1, GREATEST)", () -> x.join(0, 1, GREATEST), ARGUMENT);
        due("join(0, 1, 0)", x.join(0, 1, 0), 1);
        due("join(0, 2, 999)", x.join(0, 2, 999), 2);
    }

    private static void cutCounts() {
        OddPairs x = of("nodes 12;all;pair 0 11;pair 1 2;");
        due("cut()", x.cut(3, 4), 65);
        due("PAIRS stay", x.told(2), 2);
        due("of one that is a PAIR", x.cut(11, 0), 64);
        due("PAIRS", x.told(2), 1);
        due("0 is FREE", x.node(0, 1), -1);
        due("11 is FREE", x.node(11, 1), -1);
        due("no WEIGHT", x.line(0, 11, 1), -1);
        OddPairs y = new OddPairs();
        due("the last one", y.cut(0, 1), 0);
        OddPairs z = of("nodes 4;all;pair 0 1;pair 2 3;");
        due("a LINE between two PAIRS", z.cut(1, 2), 5);
        due("both stay", z.told(2), 2);
    }

    private static void cutNone() {
        OddPairs x = of("nodes 3;line 0 1 0;");
        thrown(x, "cut(0, 2)", () -> x.cut(0, 2), STATE);
        thrown(x, "cut(2, 1)", () -> x.cut(2, 1), STATE);
        due("one of WEIGHT 0", x.cut(1, 0), 0);
        thrown(x, "cut(0, 1) again", () -> x.cut(0, 1), STATE);
    }

    private static void cutNoSuchNode() {
        OddPairs x = of("nodes 3;all;");
        thrown(x, "cut(3, 0)", () -> x.cut(3, 0), NO_SUCH);
        thrown(x, "cut(0, 3)", () -> x.cut(0, 3), NO_SUCH);
        thrown(x, "cut(-1, 0)", () -> x.cut(-1, 0), NO_SUCH);
        thrown(x, "cut(0, LEAST)", () -> x.cut(0, LEAST), NO_SUCH);
        thrown(x, "cut(GREATEST, 0)", () -> x.cut(GREATEST, 0), NO_SUCH);
        thrown(x, "cut(2, 2)", () -> x.cut(2, 2), ARGUMENT);
    }

    private static void pairCounts() {
        OddPairs x = of("nodes 12;all;");
        for (int a = 0; a < 12; a += 2) {
            due("pair", a % 4 == 0 ? x.pair(a, a + 1) : x.pair(a + 1, a), a / 2 + 1);
        }
        mates(x, 1, 1, 0, 3, 2, 5, 4, 7, 6, 9, 8, 11, 10);
        due("LINES stay", x.told(1), 66);
    }

    private static void pairNotFree() {
        OddPairs x = of("nodes 5;ring 0 1 2 3;pair 0 1;");
        thrown(x, "pair(1, 2), the first", () -> x.pair(1, 2), STATE);
        thrown(x, "pair(2, 1), the second", () -> x.pair(2, 1), STATE);
        thrown(x, "pair(0, 1), both", () -> x.pair(0, 1), STATE);
        thrown(x, "pair(2, 4), no LINE", () -> x.pair(2, 4), STATE);
        thrown(x, "pair(0, 2), no LINE", () -> x.pair(0, 2), STATE);
        due("pair(2, 3)", x.pair(2, 3), 2);
    }

    private static void pairNoSuchNode() {
        OddPairs x = of("nodes 3;all;");
        thrown(x, "pair(3, 0)", () -> x.pair(3, 0), NO_SUCH);
        thrown(x, "pair(0, 3)", () -> x.pair(0, 3), NO_SUCH);
        thrown(x, "pair(-1, 0)", () -> x.pair(-1, 0), NO_SUCH);
        thrown(x, "pair(LEAST, 0)", () -> x.pair(LEAST, 0), NO_SUCH);
        thrown(x, "pair(0, GREATEST)", () -> x.pair(0, GREATEST), NO_SUCH);
        thrown(x, "pair(2, 2)", () -> x.pair(2, 2), ARGUMENT);
    }

    private static void partTellsWhom() {
        OddPairs x = of("nodes 12;all;pair 0 11;pair 1 2;");
        due("of 11", x.part(11), 0);
        mates(x, 1, -1, 2, 1, -1, -1, -1, -1, -1, -1, -1, -1, -1);
        due("LINES stay", x.told(1), 66);
        due("of 1", x.part(1), 2);
        due("PAIRS", x.told(2), 0);
        x.undo();
        x.undo();
        due("of 0", x.part(0), 11);
    }

    private static void partFree() {
        OddPairs x = of("nodes 3;all;pair 0 1;");
        thrown(x, "part(2)", () -> x.part(2), STATE);
        x.part(0);
        thrown(x, "part(0) again", () -> x.part(0), STATE);
        thrown(x, "part(1) then", () -> x.part(1), STATE);
    }

    private static void partNoSuchNode() {
        OddPairs x = new OddPairs();
        thrown(x, "part(2)", () -> x.part(2), NO_SUCH);
        thrown(x, "part(-1)", () -> x.part(-1), NO_SUCH);
        thrown(x, "part(LEAST)", () -> x.part(LEAST), NO_SUCH);
        thrown(x, "part(GREATEST)", () -> x.part(GREATEST), NO_SUCH);
    }

    private static void fewestLines() {
        // By 1 three lines to 3, straight one to 5, whose row is more.
        OddPairs x = of("nodes 6;line 0 1;line 1 2;line 2 3;line 0 5;pair 1 2;");
        due("better(0)", x.better(0), 2);
        mates(x, 1, 5, 2, 1, -1, -1, 0);
        // By 1 five lines to 9, by 5 three.
        OddPairs y = of("nodes 10;line 0 1;line 1 2;line 2 3;line 3 4;line 4 9;line 0 5;line 5 6;line 6 8;pair 1 2;pair 3 4;pair 5 6;");
        due("better(0)", y.better(0), 4);
        mates(y, 1, 5, 2, 1, 4, 3, 0, 8, -1, 6, -1);
    }

    private static void leastRow() {
        OddPairs x = of("nodes 12;all;");
        x.better(11);
        due("of eleven ends the least", x.node(11, 1), 0);
        OddPairs y = of("nodes 8;line 7 2;line 2 3;line 3 6;line 3 5;line 7 1;line 1 4;line 4 6;line 4 0;pair 2 3;pair 1 4;");
        due("better(7)", y.better(7), 3);
        // 7 1 4 0: the first difference decides, then the end.
        mates(y, 1, 4, 7, 3, 2, 0, -1, -1, 1);
        OddPairs z = of("nodes 6;line 5 4;line 4 0;line 0 2;line 5 3;line 3 1;line 1 2;pair 4 0;pair 3 1;");
        due("better(5)", z.better(5), 3);
        mates(z, 1, 4, 2, 1, 5, 0, 3);
    }

    private static void betterCounts() {
        OddPairs x = of("nodes 12;all;");
        int[] free = {11, 1, 3, 5, 7, 9};
        for (int i = 0; i < 6; i++) {
            due("better(" + free[i] + ")", x.better(free[i]), i + 1);
        }
        mates(x, 1, 11, 2, 1, 4, 3, 6, 5, 8, 7, 10, 9, 0);
    }

    private static void noBetterPath() {
        OddPairs x = of("nodes 6;ring 0 1 2;line 3 4;pair 1 2;pair 3 4;");
        thrown(x, "better(1), not FREE", () -> x.better(1), STATE);
        thrown(x, "better(0), none", () -> x.better(0), STATE);
        thrown(x, "better(5), no LINE", () -> x.better(5), STATE);
        OddPairs y = of("nodes 1;");
        thrown(y, "better(0), alone", () -> y.better(0), STATE);
    }

    private static void betterNoSuchNode() {
        OddPairs x = new OddPairs();
        thrown(x, "better(2)", () -> x.better(2), NO_SUCH);
        thrown(x, "better(-1)", () -> x.better(-1), NO_SUCH);
        thrown(x, "better(LEAST)", () -> x.better(LEAST), NO_SUCH);
        thrown(x, "better(GREATEST)", () -> x.better(GREATEST), NO_SUCH);
    }

    private static void finishNoneToSix() {
        OddPairs x = of("nodes 12;all;");
        due("six more", x.finish(), 6);
        mates(x, 1, 1, 0, 3, 2, 5, 4, 7, 6, 9, 8, 11, 10);
        due("none more", x.finish(), 0);
        due("no LINE", of("nodes 12;").finish(), 0);
        OddPairs y = of("nodes 4;all;pair 0 3;pair 1 2;");
        due("as many", y.finish(), 0);
        mates(y, 1, 1, 0, 3, 2);
        OddPairs z = of("nodes 4;line 0 1;line 0 2;line 1 3;pair 0 1;");
        due("one more, another PAIR parts", z.finish(), 1);
        mates(z, 1, 2, 3, 0, 1);
        OddPairs w = of("nodes 3;all;pair 1 2;");
        due("as many, another one FREE", w.finish(), 0);
        mates(w, 1, 1, 0, -1);
    }

    private static void fewestNodes() {
        // The ring of five by 1 is told first, that of three by 5 and 6 is smaller.
        OddPairs x = of("nodes 7;ring 0 1 2 3 4;ring 0 5 6;pair 1 2;pair 3 4;pair 5 6;");
        due("flower(0, NONE)", x.flower(0, -1), 3);
        due("shrink(0)", x.shrink(0), 5);
        due("the ring of five is left", x.flower(0, -1), 5);
        due("shrink(0)", x.shrink(0), 1);
    }

    private static void leastRing() {
        OddPairs x = of("nodes 7;ring 6 1 4;ring 6 2 3;ring 6 5 0;pair 1 4;pair 2 3;pair 5 0;");
        due("the lesser way round", x.flower(6, 1), 0);
        due("then", x.flower(6, 2), 5);
        due("shrink(6)", x.shrink(6), 5);
        // 1 2 3 4 6 are 0 1 2 3 4 now.
        due("of the rest", x.flower(4, 1), 0);
        due("1 with 4", x.flower(4, 2), 3);
        OddPairs y = of("nodes 7;ring 0 1 2 5 6;line 2 3;line 3 4;line 4 0;line 6 2;pair 1 2;pair 3 4;pair 5 6;");
        int[] want = {0, 1, 2, 3, 4};
        for (int i = 0; i < 5; i++) {
            due("of two by 1 and 2, place " + i, y.flower(0, i), want[i]);
        }
    }

    private static void shrinkCounts() {
        due("three to one", of("nodes 3;all;pair 0 1;").shrink(2), 1);
        due("twelve to ten", of("nodes 12;all;pair 0 1;").shrink(11), 10);
        due("eleven to one", of("nodes 11;ring 0 1 2 3 4 5 6 7 8 9 10;pair 1 2;pair 3 4;pair 5 6;pair 7 8;pair 9 10;").shrink(0), 1);
        due("twelve to two", of("nodes 12;ring 0 1 2 3 4 5 6 7 8 9 10;pair 1 2;pair 3 4;pair 5 6;pair 7 8;pair 9 10;").shrink(0), 2);
    }

    private static void noFlower() {
        OddPairs x = of("nodes 4;ring 0 1 2;line 2 3;");
        thrown(x, "shrink(0), no PAIR", () -> x.shrink(0), STATE);
        x.pair(0, 1);
        thrown(x, "shrink(0), PAIRED in the ring", () -> x.shrink(0), STATE);
        thrown(x, "shrink(3), not in the ring", () -> x.shrink(3), STATE);
        due("shrink(2)", x.shrink(2), 2);
        thrown(x, "shrink(0), no ring is left", () -> x.shrink(0), STATE);
        OddPairs y = of("nodes 1;");
        thrown(y, "shrink(0), alone", () -> y.shrink(0), STATE);
    }

    private static void shrinkNoSuchNode() {
        OddPairs x = of("nodes 3;all;pair 0 1;");
        thrown(x, "shrink(3)", () -> x.shrink(3), NO_SUCH);
        thrown(x, "shrink(-1)", () -> x.shrink(-1), NO_SUCH);
        thrown(x, "shrink(LEAST)", () -> x.shrink(LEAST), NO_SUCH);
        thrown(x, "shrink(GREATEST)", () -> x.shrink(GREATEST), NO_SUCH);
    }

    private static void undoEightToNone() {
        OddPairs x = new OddPairs();
        for (int i = 1; i <= 20; i++) {
            x.join(0, 1, i);
        }
        for (int left = 7; left >= 0; left--) {
            due("undo()", x.undo(), left);
            due("told(7)", x.told(7), left);
        }
        due("the latest that can't be taken back", x.line(0, 1, 1), 12);
        x.join(0, 1, 50);
        due("undo() of one", x.undo(), 0);
        due("undo() then", x.undo(), -1);
    }

    private static void undoOfEachAct() {
        OddPairs x = of("nodes 6;ring 0 1 2;line 2 3;line 3 4 7;line 4 5;pair 1 2;");
        long[] seen = new long[8];
        seen[0] = x.print();
        x.better(0);
        seen[1] = x.print();
        x.part(3);
        seen[2] = x.print();
        x.cut(3, 4);
        seen[3] = x.print();
        x.join(3, 4, 8);
        seen[4] = x.print();
        x.pair(3, 4);
        seen[5] = x.print();
        x.shrink(2);
        seen[6] = x.print();
        x.finish();
        seen[7] = x.print();
        tell(x, "nodes 1;");
        for (int i = 7; i >= 0; i--) {
            due("undo()", x.undo(), i);
            due("print() then", x.print(), seen[i]);
        }
        due("NODES", x.told(0), 6);
        due("MOST", x.told(3), 3);
    }

    private static void undoNone() {
        OddPairs x = new OddPairs();
        String before = look(x);
        due("ahead of any", x.undo(), -1);
        due("again", x.undo(), -1);
        same("the state", look(x), before);
        tell(x, "x");
        due("behind a FAULT", x.undo(), -1);
        thrown(x, "part(0)", () -> x.part(0), STATE);
        due("behind one that threw", x.undo(), -1);
        due("status()", x.status(0) + x.status(1) + x.status(2), 1);
    }
}
