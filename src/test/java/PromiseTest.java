/** Each promise by examples worked out by hand: ordinary inputs, edges, wrong inputs. */
public final class PromiseTest extends Checks {
    public static void main(String[] args) {
        promise1();
        promise2();
        promise3();
        promise3Numbers();
        promise3Pairs();
        promise4();
        promise5();
        promise6();
        promise7();
        promise8();
        promise9();
        promise10();
        promise11();
        promise12();
        promise12Each();
        promise13();
        promise14();
        promise15();
        promise16();
        promise17();
        promise18();
        promise19();
        promise20();
        promise21();
        promise22();
        promise23();
        promise24();
        if (wrong > 0) {
            System.exit(1);
        }
    }

    private static void promise1() {
        OddPairs x = new OddPairs();
        due("NONE", OddPairs.NONE, -1);
        int[] want = {2, 1, 0, 1, 0, 0, 0, 0};
        for (int what = 0; what < want.length; what++) {
            due("new told(" + what + ")", x.told(what), want[what]);
        }
        due("new line", x.line(0, 1, 1), 1);
        due("new fault", x.fault(), -1);
        due("new undo", x.undo(), -1);
        for (int what = 0; what < 3; what++) {
            due("new status", x.status(what), 0);
        }
    }

    private static void promise2() {
        OddPairs x = new OddPairs();
        for (int i = 1; i <= 25; i++) {
            due("feed", x.feed(0x20202020, 0x20202020, 0x20202020, 0x20202020, 0x20202020), 20 * i);
        }
        due("feed beyond 500", x.feed(1, 2, 3, 4, 5), -1);
        due("told(6) then", x.told(6), 500);
        due("blanks alone", x.text(500), -9);
        due("blanks alone end", x.fault(), 500);
        due("feed anew", x.feed(0x6e6f6465, 0x7320333b, 0x72696e67, 0x20302031, 0x20323b20), 20);
        due("highest byte first", x.text(20), 3);
    }

    private static void promise3() {
        OddPairs x = new OddPairs();
        thrown(x, "text(-1)", () -> x.text(-1), ARGUMENT);
        thrown(x, "text(1)", () -> x.text(1), ARGUMENT);
        feedText(x, "nodes 1;");
        thrown(x, "text(21)", () -> x.text(21), ARGUMENT);
        due("tape stays", x.told(6), 20);
        due("text(8)", x.text(8), 0);
        due("tape is empty", x.told(6), 0);
        due("one node", x.told(0), 1);
        OddPairs y = of("  nodes 5;ring 0 1 2 3 4;line 0 1 9;line 1 0;all;ring 0 2;line 3 4 999;line 2 4 0 ;  ");
        due("lines", y.told(1), 10);
        due("a line told again without a weight has 1", y.line(0, 1, 1), 1);
        due("weight 999", y.line(4, 3, 1), 999);
        due("weight 0", y.line(2, 4, 1), 0);
        OddPairs z = of("nodes5;line0 1 7;ring 0 1;all;");
        due("words need no blank", z.told(1), 10);
        due("ring and all leave a weight", z.line(0, 1, 1), 7);
        due("a ring of two is one line", tell(z, "nodes 2;ring 1 0;"), 1);
        faultOf("", 1, 0);
        faultOf("   ", 1, 3);
        faultOf("nodes", 1, 5);
        faultOf("nod", 1, 0);
        faultOf("nodes 2", 1, 7);
        faultOf("nodes 2  ", 1, 9);
        faultOf("nodes;", 1, 5);
        faultOf("node 2;", 1, 0);
        faultOf("Nodes 2;", 1, 0);
        faultOf(" nodess 2;", 1, 1);
        faultOf("nodes 2;;", 1, 8);
        faultOf("nodes 2; nodes 2;", 1, 9);
        faultOf("nodes 2;\nall;", 1, 8);
        faultOf("nodes 2;all\u00ff;", 1, 11);
        faultOf("nodes 2;all 1;", 1, 12);
        faultOf("nodes 2;allpair 0 1;", 1, 8);
        faultOf("nodes 2;line 0 1 5 6;", 1, 19);
        faultOf("nodes 2;line 01;", 1, 15);
        faultOf("nodes 2;line 0 1x;", 1, 16);
        faultOf("nodes 2;line 0 -1;", 1, 15);
        faultOf("nodes 2;pair 0 1 1;", 1, 17);
        faultOf("nodes 3;ring 0  ;", 1, 16);
        faultOf("nodes 3;ring;", 1, 12);
        faultOf("nodes 12;ring 0 1 2 3 4 5 6 7 8 9 10 11 0;", 1, 40);
        due("twelve in a ring", tell(z, "nodes 12;ring 0 1 2 3 4 5 6 7 8 9 10 11;"), 12);
    }

    private static void promise3Numbers() {
        faultOf("nodes 0;", 2, 6);
        faultOf("nodes 13", 2, 6);
        faultOf("nodes 4294967297;", 2, 6);
        faultOf("nodes 99999999999999999999999999;", 2, 6);
        faultOf("nodes 2;line 2 x", 2, 13);
        faultOf("nodes 2;line 0 2;", 2, 15);
        faultOf("nodes 2;line 0 0 ?", 2, 15);
        faultOf("nodes 2;line 0 1 1000;", 2, 17);
        faultOf("nodes 2;pair 1 1;", 2, 15);
        faultOf("nodes 2;pair 1 4294967296;", 2, 15);
        faultOf("nodes 3;ring 0 1 0;", 2, 17);
        faultOf("nodes 3;ring 0 0;", 2, 15);
        faultOf("nodes 3;ring 0 1 3;", 2, 17);
        faultOf("nodes 12;ring 0 1 2 3 4 5 6 7 8 9 10 10 0;", 2, 37);
        OddPairs x = of("nodes 00000000000000000000000000003;line 000 0002 00999;");
        due("nodes with zeros ahead", x.told(0), 3);
        due("weight with zeros ahead", x.line(0, 2, 1), 999);
    }

    private static void promise3Pairs() {
        faultOf("nodes 2;pair 0 1;", 3, 17);
        faultOf("nodes 2;pair 0 1;  ", 3, 19);
        faultOf("nodes 2;all;pair 0 1;pair 1 0;", 3, 30);
        faultOf("nodes 4;all;pair 0 1;pair 2 1;", 3, 30);
        faultOf("nodes 2;pair 0 1;line 0 1 1000;", 2, 26);
        faultOf("nodes 3;all;pair 0 1;pair 1 2;x", 1, 30);
        OddPairs x = of("nodes 4;pair 3 0;pair 1 2;line 0 3 4;line 1 2 5;");
        due("pairs told ahead of their lines", x.told(2), 2);
        due("their weights", x.told(5), 9);
        due("all anew: no pair", tell(x, "nodes 4;all;"), 6);
        due("all anew: pairs", x.told(2), 0);
    }

    private static void promise4() {
        OddPairs x = new OddPairs();
        due("fault ahead of any", x.fault(), -1);
        tell(x, "nodes 2;line 0 1 1000;");
        due("fault", x.fault(), 17);
        thrown(x, "text(1)", () -> x.text(1), ARGUMENT);
        due("fault behind a text that threw", x.fault(), 17);
        tell(x, "nodes 2;");
        due("fault behind a good one", x.fault(), -1);
        tell(x, "x");
        x.undo();
        due("fault behind undo", x.fault(), 0);
    }

    private static void promise5() {
        OddPairs x = of("nodes 3;line 0 1;pair 0 1;");
        due("join", x.join(2, 0, 999), 2);
        due("its weight", x.line(0, 2, 1), 999);
        due("join anew", x.join(0, 1, 0), 2);
        due("its weight then", x.line(1, 0, 1), 0);
        due("its pair stays", x.line(0, 1, 2), 1);
        thrown(x, "join(3, 3, -1)", () -> x.join(3, 3, -1), NO_SUCH);
        thrown(x, "join(0, -1, 1)", () -> x.join(0, -1, 1), NO_SUCH);
        thrown(x, "join(0, 0, 1)", () -> x.join(0, 0, 1), ARGUMENT);
        thrown(x, "join(0, 1, -1)", () -> x.join(0, 1, -1), ARGUMENT);
        thrown(x, "join(0, 1, 1000)", () -> x.join(0, 1, 1000), ARGUMENT);
    }

    private static void promise6() {
        OddPairs x = of("nodes 3;ring 0 1 2;pair 0 1;");
        due("cut", x.cut(1, 2), 2);
        due("the pair stays", x.told(2), 1);
        due("cut a pair", x.cut(1, 0), 1);
        due("the pair is gone", x.told(2), 0);
        due("so both are free", x.node(0, 1) + x.node(1, 1), -2);
        due("no weight", x.line(0, 1, 1), -1);
        thrown(x, "cut(0, 1)", () -> x.cut(0, 1), STATE);
        thrown(x, "cut(0, 0)", () -> x.cut(0, 0), ARGUMENT);
        thrown(x, "cut(0, 3)", () -> x.cut(0, 3), NO_SUCH);
        thrown(x, "cut(-1, -1)", () -> x.cut(-1, -1), NO_SUCH);
    }

    private static void promise7() {
        OddPairs x = of("nodes 5;line 0 1;line 1 2;line 2 3;");
        due("pair", x.pair(1, 0), 1);
        due("pair", x.pair(2, 3), 2);
        due("with whom", x.node(3, 1), 2);
        thrown(x, "pair(1, 2)", () -> x.pair(1, 2), STATE);
        x.part(0);
        thrown(x, "pair(1, 2)", () -> x.pair(1, 2), STATE);
        thrown(x, "pair(2, 1)", () -> x.pair(2, 1), STATE);
        thrown(x, "pair(0, 4)", () -> x.pair(0, 4), STATE);
        thrown(x, "pair(4, 4)", () -> x.pair(4, 4), ARGUMENT);
        thrown(x, "pair(5, 5)", () -> x.pair(5, 5), NO_SUCH);
    }

    private static void promise8() {
        OddPairs x = of("nodes 4;all;pair 0 3;pair 1 2;");
        due("part", x.part(3), 0);
        due("pairs", x.told(2), 1);
        due("lines stay", x.told(1), 6);
        thrown(x, "part(0)", () -> x.part(0), STATE);
        thrown(x, "part(4)", () -> x.part(4), NO_SUCH);
    }

    private static void promise9() {
        OddPairs x = of("nodes 6;ring 0 1 2 3 4 5;pair 1 2;pair 3 4;");
        due("the straight one first", x.better(0), 3);
        due("with 5", x.node(0, 1), 5);
        x.undo();
        x.cut(0, 5);
        due("all the way", x.better(5), 3);
        due("0 with", x.node(0, 1), 1);
        due("2 with", x.node(2, 1), 3);
        due("4 with", x.node(4, 1), 5);
        thrown(x, "better of one paired", () -> x.better(5), STATE);
        thrown(x, "better(6)", () -> x.better(6), NO_SUCH);
        OddPairs y = of("nodes 3;ring 0 1 2;pair 1 2;");
        thrown(y, "better without a path", () -> y.better(0), STATE);
        OddPairs z = of("nodes 6;line 0 1;line 1 2;line 0 3;line 3 4;line 2 5;line 4 5;pair 1 2;pair 3 4;");
        due("of two the least", z.better(0), 3);
        due("by 1", z.node(0, 1), 1);
        due("the least end", of("nodes 4;line 3 2;line 3 1;").path(3, 1), 1);
        due("not by 3", z.node(3, 1), 4);
        OddPairs w = of("nodes 6;line 0 1;line 1 2;ring 2 3 4;line 3 5;pair 1 2;pair 3 4;");
        due("round an odd ring", w.better(0), 3);
        due("2 with 4", w.node(2, 1), 4);
        due("3 with 5", w.node(3, 1), 5);
    }

    private static void promise10() {
        OddPairs x = of("nodes 5;line 0 4;line 1 4;line 1 2;line 2 3;pair 1 2;");
        due("finish", x.finish(), 1);
        due("row 0", x.node(0, 1), 4);
        due("row 1", x.node(1, 1), 2);
        due("row 3", x.node(3, 1), -1);
        due("finish again", x.finish(), 0);
        due("is an act", x.told(7), 3);
        OddPairs y = of("nodes 4;all;pair 0 3;pair 1 2;");
        due("as many, but the first", y.finish(), 0);
        due("0 with 1", y.node(0, 1), 1);
        due("2 with 3", y.node(2, 1), 3);
        OddPairs z = of("nodes 3;line 1 2;line 0 2;");
        z.finish();
        due("NONE counts as more", z.node(0, 1), 2);
    }

    private static void promise11() {
        OddPairs x = of("nodes 7;ring 1 2 3 4 5;line 0 3 7;line 0 2 9;line 0 1 8;line 3 6;line 5 6 4;pair 2 3;pair 4 5;pair 0 1;");
        due("five in one", x.shrink(1), 3);
        due("lines", x.told(1), 2);
        due("the greatest weight", x.line(0, 1, 1), 9);
        due("of 6, renumbered", x.line(1, 2, 1), 4);
        due("0 and 6 have none", x.line(0, 2, 0), 0);
        due("the pair of 1 stays", x.node(1, 1), 0);
        thrown(x, "none left", () -> x.shrink(1), STATE);
        thrown(x, "shrink(3)", () -> x.shrink(3), NO_SUCH);
        due("undo", x.undo(), 1);
        due("nodes", x.told(0), 7);
        OddPairs y = of("nodes 6;line 0 1;line 2 3;line 4 5;ring 5 0 1;ring 5 2 3;pair 0 1;pair 2 3;");
        due("the least of two", y.shrink(5), 4);
        due("5 is 3 now", y.told(0) - 1, 3);
        due("2 and 3 are 0 and 1", y.line(0, 1, 2), 1);
        due("and a ring is left", y.flower(3, -1), 3);
        OddPairs z = of("nodes 3;ring 0 1 2;pair 0 1;");
        thrown(z, "one of its own pair", () -> z.shrink(0), STATE);
        due("all in one", z.shrink(2), 1);
        due("no line", z.told(1), 0);
    }

    private static void promise12() {
        OddPairs x = new OddPairs();
        for (int i = 0; i < 10; i++) {
            x.join(0, 1, 100 + i);
        }
        due("eight", x.told(7), 8);
        for (int i = 7; i >= 0; i--) {
            due("undo", x.undo(), i);
            due("weight", x.line(0, 1, 1), 101 + i);
        }
        due("undo no more", x.undo(), -1);
        due("weight stays", x.line(0, 1, 1), 101);
        due("told(7)", x.told(7), 0);
    }

    private static void promise12Each() {
        OddPairs x = of("nodes 6;ring 0 1 2;line 2 3;line 3 4;line 4 5;pair 1 2;");
        long[] seen = new long[8];
        seen[0] = x.print();
        x.better(0);
        seen[1] = x.print();
        x.part(0);
        seen[2] = x.print();
        x.cut(2, 3);
        seen[3] = x.print();
        x.join(2, 5, 6);
        seen[4] = x.print();
        x.pair(0, 1);
        seen[5] = x.print();
        x.finish();
        seen[6] = x.print();
        x.shrink(x.flower(0, -1) > 0 ? 0 : 2);
        seen[7] = x.print();
        due("acts", x.told(7), 8);
        tell(x, "nodes 3;all;");
        due("acts stay eight", x.told(7), 8);
        x.told(3);
        x.sets(5);
        x.barrier(1);
        due("questions are no acts", x.told(7), 8);
        tell(x, "nodes 3;bad;");
        due("a text with a fault is none", x.told(7), 8);
        for (int i = 7; i >= 0; i--) {
            due("undo", x.undo(), i);
            due("print behind undo", x.print(), seen[i]);
        }
        due("answers follow", x.told(3), 3);
    }

    private static void promise13() {
        OddPairs x = of("nodes 5;line 0 1 4;line 1 2;line 1 3 6;pair 1 3;");
        x.feed(0, 0, 0, 0, 0);
        int[] want = {5, 3, 1, 1, 3, 6, 20, 1};
        for (int what = 0; what < want.length; what++) {
            due("told(" + what + ")", x.told(what), want[what]);
        }
        thrown(x, "told(8)", () -> x.told(8), ARGUMENT);
        thrown(x, "told(-1)", () -> x.told(-1), ARGUMENT);
    }

    private static void promise14() {
        OddPairs x = of("nodes 5;line 0 1 0;line 1 2 5;line 2 3;line 3 4;line 4 2;pair 1 2;");
        due("line 0", x.line(1, 0, 0), 1);
        due("no line 0", x.line(0, 2, 0), 0);
        due("weight 0", x.line(0, 1, 1), 0);
        due("no weight", x.line(0, 2, 1), -1);
        due("pair", x.line(2, 1, 2), 1);
        due("no pair", x.line(0, 1, 2), 0);
        due("some have 1 2", x.line(1, 2, 3), 1);
        due("some have 0 1", x.line(0, 1, 3), 1);
        due("not all have 0 1", x.line(0, 1, 4), 0);
        due("nobody has 0 2", x.line(0, 2, 3), 0);
        OddPairs y = of("nodes 4;line 0 1;line 1 2;line 2 3;");
        due("all have 0 1", y.line(0, 1, 4), 1);
        due("none has 1 2", y.line(1, 2, 3), 0);
        due("not all have 1 2", y.line(1, 2, 4), 0);
        thrown(y, "line(4, 4, 9)", () -> y.line(4, 4, 9), NO_SUCH);
        thrown(y, "line(0, -1, 0)", () -> y.line(0, -1, 0), NO_SUCH);
        thrown(y, "line(1, 1, 0)", () -> y.line(1, 1, 0), ARGUMENT);
        thrown(y, "line(0, 1, 5)", () -> y.line(0, 1, 5), ARGUMENT);
        thrown(y, "line(0, 1, -1)", () -> y.line(0, 1, -1), ARGUMENT);
    }

    private static void promise15() {
        OddPairs x = of("nodes 6;line 0 1;line 0 2;line 0 3;line 4 5;pair 0 2;pair 4 5;");
        int[][] want = {{3, 1, 1, 1, 1, 1}, {2, -1, 0, -1, 5, 4}, {1, 0, 0, 0, 2, 2}, {1, 0, 0, 0, 2, 2},
            {1, 0, -1, -1, 5, 4}};
        for (int what = 0; what < 5; what++) {
            for (int a = 0; a < 6; a++) {
                due("node(" + a + ", " + what + ")", x.node(a, what), want[what][a]);
            }
        }
        thrown(x, "node(6, 7)", () -> x.node(6, 7), NO_SUCH);
        thrown(x, "node(-1, 0)", () -> x.node(-1, 0), NO_SUCH);
        thrown(x, "node(0, 5)", () -> x.node(0, 5), ARGUMENT);
        thrown(x, "node(0, -1)", () -> x.node(0, -1), ARGUMENT);
    }

    private static void promise16() {
        OddPairs x = of("nodes 6;line 0 1;line 0 2;line 0 3;line 4 5;pair 0 2;pair 4 5;");
        int[] want = {14, 1, 48, 14, 1, 48};
        for (int what = 0; what < want.length; what++) {
            due("sets(" + what + ")", x.sets(what), want[what]);
        }
        thrown(x, "sets(6)", () -> x.sets(6), ARGUMENT);
        thrown(x, "sets(-1)", () -> x.sets(-1), ARGUMENT);
        // To 1 a path of one line leads, and round the ring one of four.
        OddPairs y = of("nodes 4;line 0 1;ring 1 2 3;pair 2 3;");
        due("EVEN", y.sets(3), 15);
        OddPairs z = of("nodes 5;line 0 1;line 1 2;ring 2 3 4;pair 1 2;pair 3 4;");
        due("EVEN behind an odd ring", z.sets(3), 29);
        due("ODD", z.sets(4), 2);
        due("BESIDE is not MISSED", of("nodes 5;ring 0 1 2;line 2 3;line 3 4;").sets(1), 8);
        // A walk that comes back to its own nodes is no path.
        OddPairs w = of("nodes 4;line 0 1;line 1 2;line 2 3;pair 1 2;");
        due("free ones are EVEN", w.sets(3), 15);
        w.cut(2, 3);
        due("EVEN without 2 3", w.sets(3), 13);
    }

    private static void promise17() {
        OddPairs x = of("nodes 6;line 0 1;line 0 2;line 0 3;line 4 5;");
        due("odd(0)", x.odd(0), 0);
        due("odd(1)", x.odd(1), 3);
        due("odd(2)", x.odd(2), 1);
        due("odd(17)", x.odd(17), 4);
        due("odd(63)", x.odd(63), 0);
        thrown(x, "odd(64)", () -> x.odd(64), ARGUMENT);
        thrown(x, "odd(-1)", () -> x.odd(-1), ARGUMENT);
        thrown(x, "odd(MIN)", () -> x.odd(Integer.MIN_VALUE), ARGUMENT);
        x.cut(4, 5);
        due("odd follows a cut", x.odd(0), 2);
    }

    private static void promise18() {
        OddPairs x = of("nodes 6;line 0 1;line 0 2;line 0 3;line 4 5;");
        due("barrier(0)", x.barrier(0), 1);
        due("barrier(1)", x.barrier(1), 17);
        thrown(x, "barrier(2)", () -> x.barrier(2), ARGUMENT);
        thrown(x, "barrier(-1)", () -> x.barrier(-1), ARGUMENT);
        OddPairs y = of("nodes 4;ring 0 1 2 3;");
        due("none is needed", y.barrier(0), 0);
        due("of 5 and 10 the least", y.barrier(1), 5);
        y.cut(0, 1);
        due("follows a cut", y.barrier(1), 5);
        OddPairs z = of("nodes 3;");
        due("no line: the empty one", z.barrier(1), 0);
        due("of 1 and 8 the least", of("nodes 6;line 0 1;line 0 2;line 0 3;line 3 4;line 3 5;").barrier(0), 1);
    }

    private static void promise19() {
        OddPairs x = of("nodes 11;all;");
        due("ways of eleven", x.ways(), 10395);
        due("nothing to join", of("nodes 3;").ways(), 1);
        due("ring of six", of("nodes 6;ring 0 1 2 3 4 5;").ways(), 2);
        due("ring of five", of("nodes 5;ring 0 1 2 3 4;").ways(), 5);
    }

    private static void promise20() {
        OddPairs x = of("nodes 4;line 0 1 5;line 2 3 6;line 0 2 900;line 0 3 4;line 1 2 5;");
        due("heavy(0)", x.heavy(0), 11);
        due("heavy(1)", x.heavy(1), 9);
        x.join(1, 3, 0);
        due("heavy(0) then", x.heavy(0), 900);
        x.undo();
        due("heavy(0) taken back", x.heavy(0), 11);
        due("of no line", of("nodes 1;").heavy(0), 0);
        due("all are heavy", of("nodes 4;line 0 1 999;line 2 3 999;").heavy(1), 1998);
        thrown(x, "heavy(2)", () -> x.heavy(2), ARGUMENT);
        thrown(x, "heavy(-1)", () -> x.heavy(-1), ARGUMENT);
    }

    private static void promise21() {
        OddPairs x = of("nodes 6;line 0 1;line 1 2;ring 2 3 4;line 3 5;pair 1 2;pair 3 4;");
        int[] want = {0, 1, 2, 4, 3, 5};
        due("path(0, NONE)", x.path(0, -1), 5);
        for (int i = 0; i < 6; i++) {
            due("path(0, " + i + ")", x.path(0, i), want[i]);
            due("path(5, " + i + ")", x.path(5, i), want[5 - i]);
        }
        thrown(x, "path(0, 6)", () -> x.path(0, 6), NO_SUCH);
        thrown(x, "path(0, -2)", () -> x.path(0, -2), NO_SUCH);
        thrown(x, "path(6, -1)", () -> x.path(6, -1), NO_SUCH);
        due("one that is paired", x.path(1, 99), -1);
        x.cut(3, 5);
        due("none", x.path(0, -2), -1);
    }

    private static void promise22() {
        OddPairs x = of("nodes 6;ring 0 1 2 5 4;line 2 3;pair 1 2;pair 5 4;");
        int[] want = {0, 1, 2, 5, 4};
        due("flower(0, NONE)", x.flower(0, -1), 5);
        for (int i = 0; i < 5; i++) {
            due("flower(0, " + i + ")", x.flower(0, i), want[i]);
        }
        thrown(x, "flower(0, 5)", () -> x.flower(0, 5), NO_SUCH);
        thrown(x, "flower(0, -2)", () -> x.flower(0, -2), NO_SUCH);
        thrown(x, "flower(6, 0)", () -> x.flower(6, 0), NO_SUCH);
        due("none", x.flower(3, 77), -1);
        x.join(0, 5, 1);
        due("a smaller one", x.flower(0, -1), 3);
        due("its lesser way round", x.flower(0, 1), 4);
        OddPairs y = of("nodes 4;line 0 1;ring 1 2 3;pair 0 1;pair 2 3;");
        due("about one that is paired", y.flower(1, -1), 3);
    }

    private static void promise23() {
        OddPairs x = of("nodes 3;line 0 2 4;line 0 1 6;pair 2 0;");
        due("print", x.print(), ((2 * 31 - 1) * 31 * 31 + 6) * 31 + 4);
        OddPairs y = of("nodes 12;all;");
        long sum = 0;
        for (int a = 0; a < 12; a++) {
            sum = sum * 31 - 1;
        }
        for (int i = 0; i < 66; i++) {
            sum = sum * 31 + 1;
        }
        due("print wraps round", y.print(), sum);
    }

    private static void promise24() {
        OddPairs x = new OddPairs();
        thrown(x, "node(2, 0)", () -> x.node(2, 0), NO_SUCH);
        thrown(x, "told(-1)", () -> x.told(-1), ARGUMENT);
        thrown(x, "told(9)", () -> x.told(9), ARGUMENT);
        thrown(x, "part(0)", () -> x.part(0), STATE);
        due("status(0)", x.status(0), 1);
        due("status(1)", x.status(1), 2);
        due("status(2)", x.status(2), 1);
        due("status(3)", x.status(3), -1);
        due("status(-1)", x.status(-1), -1);
        tell(x, "x");
        x.join(0, 1, 5);
        x.undo();
        x.undo();
        due("faults and undo don't count", x.status(0) + x.status(1) + x.status(2), 4);
    }
}
