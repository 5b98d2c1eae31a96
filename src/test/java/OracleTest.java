import java.util.Arrays;
import java.util.Random;
import java.util.function.LongSupplier;

/** Runs of drawn calls: OddPairs and the oracle must answer, or throw, alike. */
public final class OracleTest {
    private static int wrong = 0;

    private final Random draw;
    private final int run;
    private final OddPairs x = new OddPairs();
    private final Oracle y = new Oracle();
    private final StringBuilder calls = new StringBuilder();

    private OracleTest(int run) {
        this.run = run;
        this.draw = new Random(run);
    }

    public static void main(String[] args) {
        for (int run = 1; run <= 1500 && wrong == 0; run++) {
            new OracleTest(run).go();
        }
        for (int run = 1501; run <= 6500 && wrong == 0; run++) {
            new OracleTest(run).goLongWays();
        }
        if (wrong > 0) {
            System.exit(1);
        }
    }

    private void go() {
        int most = run % 25 == 0 ? 12 : run % 3 == 0 ? 5 : 8;
        int calls = run % 25 == 0 ? 60 : 200;
        if (run % 4 != 0) {
            tell(drawText(most));
        }
        for (int i = 0; i < calls && wrong == 0; i++) {
            one(most);
            if (i % 25 == 0) {
                askAll();
            }
        }
    }

    /** Few lines and nearly all nodes paired: there a path or a ring must go a long way round. */
    private void goLongWays() {
        tell(pairedText(5 + draw.nextInt(8)));
        for (int a = 0; a < y.nodes() && wrong == 0; a++) {
            int n = a;
            same("node(" + n + ",2)", () -> x.node(n, 2), () -> y.node(n, 2));
            for (int i = -1; i < y.nodes(); i++) {
                askPlace(n, i);
            }
        }
        int a = drawNode();
        same("better(" + a + ")", () -> x.better(a), () -> y.better(a));
        int b = drawNode();
        same("shrink(" + b + ")", () -> x.shrink(b), () -> y.shrink(b));
        same("print()", x::print, y::print);
    }

    private void askPlace(int a, int i) {
        same("path(" + a + "," + i + ")", () -> x.path(a, i), () -> y.path(a, i));
        same("flower(" + a + "," + i + ")", () -> x.flower(a, i), () -> y.flower(a, i));
    }

    private static Object answer(LongSupplier call) {
        try {
            return call.getAsLong();
        } catch (RuntimeException e) {
            return e.getClass().getName();
        }
    }

    private void same(String call, LongSupplier got, LongSupplier want) {
        calls.append(call).append('\n');
        Object g = answer(got);
        Object w = answer(want);
        if (!g.equals(w)) {
            wrong++;
            System.out.println("run " + run + ": " + call + " answered " + g + ", due is " + w + " after\n" + calls);
        }
    }

    private int drawNode() {
        int r = draw.nextInt(40);
        return r == 0 ? -1 : r == 1 ? y.nodes() : r == 2 ? Integer.MIN_VALUE : r == 3 ? Integer.MAX_VALUE
            : draw.nextInt(y.nodes());
    }

    private int drawWhat(int count) {
        return draw.nextInt(30) == 0 ? draw.nextInt() : draw.nextInt(count + 2) - 1;
    }

    private int drawPlace() {
        return draw.nextInt(30) == 0 ? draw.nextInt() : draw.nextInt(10) - 3;
    }

    private int drawWeight() {
        int r = draw.nextInt(20);
        return r == 0 ? -1 : r == 1 ? 1000 : r == 2 ? 999 : r == 3 ? 0 : draw.nextInt(30);
    }

    private void one(int most) {
        int a = drawNode();
        int b = drawNode();
        int kind = draw.nextInt(40);
        if (kind < 14) {
            change(kind, a, b, most);
        } else {
            ask(kind, a, b);
        }
        same("print()", x::print, y::print);
    }

    private void change(int kind, int a, int b, int most) {
        int w = drawWeight();
        switch (kind) {
            case 0, 1 -> same("join(" + a + "," + b + "," + w + ")", () -> x.join(a, b, w), () -> y.join(a, b, w));
            case 2 -> same("cut(" + a + "," + b + ")", () -> x.cut(a, b), () -> y.cut(a, b));
            case 3, 4, 5 -> same("pair(" + a + "," + b + ")", () -> x.pair(a, b), () -> y.pair(a, b));
            case 6, 7 -> same("part(" + a + ")", () -> x.part(a), () -> y.part(a));
            case 8, 9 -> same("better(" + a + ")", () -> x.better(a), () -> y.better(a));
            case 10 -> {
                if (draw.nextInt(3) == 0) {
                    same("finish()", x::finish, y::finish);
                }
            }
            case 11 -> {
                if (draw.nextInt(3) == 0) {
                    same("shrink(" + a + ")", () -> x.shrink(a), () -> y.shrink(a));
                }
            }
            case 12 -> {
                int times = draw.nextInt(4) == 0 ? draw.nextInt(10) : 1;
                for (int i = 0; i < times; i++) {
                    same("undo()", x::undo, y::undo);
                }
            }
            default -> {
                if (draw.nextInt(3) == 0) {
                    tell(draw.nextInt(2) == 0 ? drawText(most) : spoil(drawText(most)));
                }
            }
        }
    }

    private void ask(int kind, int a, int b) {
        int what = drawWhat(kind == 18 || kind == 19 ? 2 : kind < 18 ? 8 : 5);
        int i = drawPlace();
        int set = draw.nextInt(15) == 0 ? draw.nextInt() : draw.nextInt((1 << y.nodes()) + 2);
        switch (kind) {
            case 14, 15, 16, 17 -> same("told(" + what + ")", () -> x.told(what), () -> y.told(what));
            case 18 -> same("barrier(" + what + ")", () -> x.barrier(what), () -> y.barrier(what));
            case 19 -> same("heavy(" + what + ")", () -> x.heavy(what), () -> y.heavy(what));
            case 20 -> same("ways()", x::ways, y::ways);
            case 21, 22 -> same("odd(" + set + ")", () -> x.odd(set), () -> y.odd(set));
            case 23, 24, 25 -> same("sets(" + what + ")", () -> x.sets(what), () -> y.sets(what));
            case 26, 27, 28 -> same("node(" + a + "," + what + ")", () -> x.node(a, what), () -> y.node(a, what));
            case 29, 30, 31 -> same("line(" + a + "," + b + "," + what + ")",
                () -> x.line(a, b, what), () -> y.line(a, b, what));
            case 32, 33, 34 -> same("path(" + a + "," + i + ")", () -> x.path(a, i), () -> y.path(a, i));
            case 35, 36, 37 -> same("flower(" + a + "," + i + ")", () -> x.flower(a, i), () -> y.flower(a, i));
            case 38 -> same("status(" + what + ")", () -> x.status(what), () -> y.status(what));
            default -> same("fault()", x::fault, y::fault);
        }
    }

    private void askAll() {
        for (int what = 0; what < 8; what++) {
            int w = what;
            same("told(" + w + ")", () -> x.told(w), () -> y.told(w));
            same("sets(" + w + ")", () -> x.sets(w), () -> y.sets(w));
            same("barrier(" + w + ")", () -> x.barrier(w), () -> y.barrier(w));
            same("heavy(" + w + ")", () -> x.heavy(w), () -> y.heavy(w));
        }
        same("ways()", x::ways, y::ways);
        for (int a = 0; a < y.nodes(); a++) {
            for (int b = -1; b < y.nodes() + 1; b++) {
                int n = a;
                int i = b;
                same("node(" + n + "," + i + ")", () -> x.node(n, i), () -> y.node(n, i));
                askPlace(n, i);
                same("line(" + n + "," + i + ",3)", () -> x.line(n, i, 3), () -> y.line(n, i, 3));
                same("line(" + n + "," + i + ",4)", () -> x.line(n, i, 4), () -> y.line(n, i, 4));
            }
        }
    }

    // ---- texts

    private void tell(String text) {
        int length = Math.min(text.length(), 500);
        byte[] bytes = Arrays.copyOf(text.getBytes(java.nio.charset.StandardCharsets.ISO_8859_1), 520);
        for (int at = 0; at < length; at += 20) {
            int[] n = new int[5];
            for (int k = 0; k < 20; k++) {
                n[k / 4] = n[k / 4] << 8 | bytes[at + k] & 255;
            }
            same("feed(" + Arrays.toString(n) + ")", () -> x.feed(n[0], n[1], n[2], n[3], n[4]), () -> y.feed(n));
        }
        int count = draw.nextInt(12) == 0 ? draw.nextInt(520) - 10 : length;
        same("text(" + count + ") of '" + text + "'", () -> x.text(count), () -> y.text(count));
        same("fault()", x::fault, y::fault);
        same("told(6)", () -> x.told(6), () -> y.told(6));
    }

    private String gap() {
        return " ".repeat(draw.nextInt(8) == 0 ? 1 + draw.nextInt(3) : 0);
    }

    private String number(int value) {
        String zeros = draw.nextInt(15) == 0 ? "0".repeat(1 + draw.nextInt(20)) : "";
        return gap() + " " + zeros + value;
    }

    private String drawText(int most) {
        int n = draw.nextInt(10) == 0 ? 1 + draw.nextInt(2) : 1 + draw.nextInt(most);
        StringBuilder s = new StringBuilder(gap() + "nodes" + number(n) + gap() + ";");
        int statements = draw.nextInt(14);
        boolean[] paired = new boolean[n];
        for (int i = 0; i < statements && s.length() < 430; i++) {
            s.append(gap()).append(statement(n, most, paired)).append(gap()).append(';');
        }
        return s.append(gap()).toString();
    }

    private String statement(int n, int most, boolean[] paired) {
        int kind = draw.nextInt(12);
        int a = draw.nextInt(n);
        int b = draw.nextInt(n);
        if (kind == 0 && (most < 12 || draw.nextInt(4) == 0)) {
            return "all";
        }
        if (kind <= 2) {
            return ring(n);
        }
        if (kind <= 4 && a != b && (draw.nextInt(10) == 0 || !paired[a] && !paired[b])) {
            paired[a] = true;
            paired[b] = true;
            String line = draw.nextInt(6) == 0 ? "" : "line" + number(a) + number(b) + gap() + ";";
            return line + "pair" + number(a) + number(b);
        }
        if (a == b) {
            b = draw.nextInt(30) == 0 ? b : (a + 1) % n;
        }
        String weight = draw.nextBoolean() ? "" : number(draw.nextInt(20) == 0 ? 1000 : draw.nextInt(1000));
        return "line" + number(a) + number(b) + weight;
    }

    private int[] order(int n) {
        int[] order = new int[n];
        for (int i = 0; i < n; i++) {
            int j = draw.nextInt(i + 1);
            order[i] = order[j];
            order[j] = i;
        }
        return order;
    }

    /** One or two nodes are free, but for the odd one that may be left. */
    private String pairedText(int n) {
        int[] order = order(n);
        StringBuilder s = new StringBuilder("nodes " + n + ";");
        for (int i = 1 + draw.nextInt(2); i + 1 < n; i += 2) {
            String two = " " + order[i] + " " + order[i + 1] + ";";
            s.append("line").append(two).append("pair").append(two);
        }
        for (int lines = n / 2 + draw.nextInt(n + 3); lines > 0; lines--) {
            int a = draw.nextInt(n);
            s.append("line ").append(a).append(' ').append((a + 1 + draw.nextInt(n - 1)) % n).append(';');
        }
        return s.toString();
    }

    private String ring(int n) {
        int[] order = order(n);
        int count = draw.nextInt(20) == 0 ? n + 1 : Math.min(n, 2 + draw.nextInt(n));
        StringBuilder s = new StringBuilder("ring");
        for (int i = 0; i < count; i++) {
            s.append(number(order[i % n]));
        }
        return s.toString();
    }

    private String spoil(String text) {
        StringBuilder s = new StringBuilder(text);
        String signs = ";; 0123456789aelnpr\u0000\u00ff\n-";
        for (int i = draw.nextInt(2); i >= 0 && s.length() > 0; i--) {
            int at = draw.nextInt(s.length());
            char sign = signs.charAt(draw.nextInt(signs.length()));
            switch (draw.nextInt(4)) {
                case 0 -> s.setCharAt(at, sign);
                case 1 -> s.insert(at, sign);
                case 2 -> s.deleteCharAt(at);
                default -> s.setLength(at);
            }
        }
        return s.toString();
    }
}
