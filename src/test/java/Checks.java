import java.nio.charset.StandardCharsets;
import java.util.Arrays;
import java.util.NoSuchElementException;
import java.util.function.LongSupplier;

/** What the tests by example share: to tell a text, to look at all that may change, to compare. */
abstract class Checks {
    static final Class<?> NO_SUCH = NoSuchElementException.class;
    static final Class<?> ARGUMENT = IllegalArgumentException.class;
    static final Class<?> STATE = IllegalStateException.class;

    static int wrong = 0;
    /** Ahead of each complaint: where the document says what is broken. */
    static String about = "";

    static void complain(String what) {
        wrong++;
        System.out.println(about + what);
    }

    static void due(String call, long got, long want) {
        if (got != want) {
            complain(call + " answered " + got + ", due is " + want);
        }
    }

    static void thrown(OddPairs x, String call, LongSupplier run, Class<?> want) {
        String before = look(x);
        int[] counts = {x.status(0), x.status(1), x.status(2)};
        String got = "nothing";
        try {
            run.getAsLong();
        } catch (RuntimeException e) {
            got = e.getClass().getSimpleName();
        }
        if (!got.equals(want.getSimpleName())) {
            complain(call + " threw " + got + ", due is " + want.getSimpleName());
        }
        same(call + " then the state", look(x), before);
        counts[want == NO_SUCH ? 0 : want == ARGUMENT ? 1 : 2]++;
        for (int i = 0; i < 3; i++) {
            due(call + " then status(" + i + ")", x.status(i), counts[i]);
        }
    }

    static void same(String what, String got, String want) {
        if (!got.equals(want)) {
            complain(what + " is " + got + ", due is " + want);
        }
    }

    /** Ten calls that show all that a call could change, but for status(). */
    static String look(OddPairs x) {
        StringBuilder s = new StringBuilder("print " + x.print() + " fault " + x.fault() + " told");
        for (int what = 0; what < 8; what++) {
            s.append(' ').append(x.told(what));
        }
        return s.toString();
    }

    static int tell(OddPairs x, String text) {
        feedText(x, text);
        return x.text(text.length());
    }

    /** The text's bytes, and zeros up to a multiple of twenty. */
    static int feedText(OddPairs x, String text) {
        byte[] bytes = text.getBytes(StandardCharsets.ISO_8859_1);
        int answer = x.told(6);
        for (int at = 0; at < bytes.length; at += 20) {
            byte[] row = Arrays.copyOfRange(bytes, at, at + 20);
            int[] n = new int[5];
            for (int k = 0; k < 20; k++) {
                n[k / 4] = n[k / 4] << 8 | row[k] & 255;
            }
            answer = x.feed(n[0], n[1], n[2], n[3], n[4]);
        }
        return answer;
    }

    static OddPairs of(String text) {
        OddPairs x = new OddPairs();
        if (tell(x, text) < 0) {
            complain("'" + text + "' is refused");
        }
        return x;
    }

    static void faultOf(String text, int kind, int place) {
        OddPairs x = of("nodes 3; line 0 1 7; line 1 2; pair 0 1;");
        long before = x.print();
        due("text '" + text + "'", tell(x, text), kind - 10);
        due("fault of '" + text + "'", x.fault(), place);
        due("told(6) behind '" + text + "'", x.told(6), 0);
        due("print behind '" + text + "'", x.print(), before);
        due("acts behind '" + text + "'", x.told(7), 1);
    }

    /** With whom each node is paired, or is in FIRST. */
    static void mates(OddPairs x, int what, int... want) {
        for (int a = 0; a < want.length; a++) {
            due("node(" + a + ", " + what + ")", x.node(a, what), want[a]);
        }
        due("nodes", x.told(0), want.length);
    }
}
