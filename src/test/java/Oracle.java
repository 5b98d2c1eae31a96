import java.math.BigInteger;
import java.util.ArrayList;
import java.util.Arrays;
import java.util.HashSet;
import java.util.List;
import java.util.NoSuchElementException;
import java.util.Set;
import java.util.regex.Matcher;
import java.util.regex.Pattern;

/** The document said a second time, by trying everything: slow, and written apart from OddPairs. */
final class Oracle {
    static final int NONE = -1;

    private static final class State {
        int[][] weight;
        int[] mate;

        State(int nodes) {
            weight = new int[nodes][nodes];
            for (int[] row : weight) {
                Arrays.fill(row, NONE);
            }
            mate = new int[nodes];
            Arrays.fill(mate, NONE);
        }

        State copy() {
            State other = new State(mate.length);
            for (int a = 0; a < mate.length; a++) {
                other.weight[a] = weight[a].clone();
            }
            other.mate = mate.clone();
            return other;
        }
    }

    private State now = new State(2);
    private final List<State> past = new ArrayList<>();
    private final StringBuilder tape = new StringBuilder();
    private int faultPlace = NONE;
    private final int[] refused = new int[3];
    private List<int[]> greatestRows = null;

    Oracle() {
        setWeight(now, 0, 1, 1);
    }

    private static void setWeight(State s, int a, int b, int w) {
        s.weight[a][b] = w;
        s.weight[b][a] = w;
    }

    int nodes() {
        return now.mate.length;
    }

    private boolean isLine(int a, int b) {
        return a != b && now.weight[a][b] != NONE;
    }

    // ---- refusals

    private RuntimeException no(RuntimeException e) {
        if (e instanceof NoSuchElementException) {
            refused[0]++;
        } else if (e instanceof IllegalArgumentException) {
            refused[1]++;
        } else {
            refused[2]++;
        }
        return e;
    }

    private void nodesExist(int... all) {
        for (int a : all) {
            if (a < 0 || a >= nodes()) {
                throw no(new NoSuchElementException());
            }
        }
    }

    private void argument(boolean ok) {
        if (!ok) {
            throw no(new IllegalArgumentException());
        }
    }

    private void state(boolean ok) {
        if (!ok) {
            throw no(new IllegalStateException());
        }
    }

    // ---- text

    int feed(int... numbers) {
        if (tape.length() + 20 > 500) {
            return NONE;
        }
        for (int number : numbers) {
            for (int k = 3; k >= 0; k--) {
                tape.append((char) (number >>> 8 * k & 255));
            }
        }
        return tape.length();
    }

    private static final class Fault extends Exception {
        private static final long serialVersionUID = 1;
        final int kind;
        final int place;

        Fault(int kind, int place) {
            this.kind = kind;
            this.place = place;
        }
    }

    private static final Pattern TOKEN = Pattern.compile("[a-z]+|[0-9]+|[^ ]", Pattern.DOTALL);

    private static State parse(String text) throws Fault {
        List<String> words = new ArrayList<>();
        List<Integer> places = new ArrayList<>();
        Matcher m = TOKEN.matcher(text);
        while (m.find()) {
            words.add(m.group());
            places.add(m.start());
        }
        words.add("");
        places.add(text.length());
        int[] at = {0};
        expect(words, places, at, "nodes");
        State s = new State(number(words, places, at, 1, 12));
        expect(words, places, at, ";");
        int n = s.mate.length;
        boolean clash = false;
        List<int[]> pairs = new ArrayList<>();
        while (!words.get(at[0]).isEmpty()) {
            String word = words.get(at[0]++);
            if (word.equals("all")) {
                for (int a = 0; a < n; a++) {
                    for (int b = 0; b < a; b++) {
                        setWeight(s, a, b, s.weight[a][b] == NONE ? 1 : s.weight[a][b]);
                    }
                }
            } else if (word.equals("line") || word.equals("pair")) {
                int a = number(words, places, at, 0, n - 1);
                int b = number(words, places, at, 0, n - 1);
                if (a == b) {
                    throw new Fault(2, places.get(at[0] - 1));
                }
                if (word.equals("pair")) {
                    for (int[] p : pairs) {
                        clash |= p[0] == a || p[1] == a || p[0] == b || p[1] == b;
                    }
                    pairs.add(new int[] {a, b});
                } else {
                    boolean more = words.get(at[0]).matches("[0-9]+");
                    setWeight(s, a, b, more ? number(words, places, at, 0, 999) : 1);
                }
            } else if (word.equals("ring")) {
                List<Integer> ring = new ArrayList<>();
                while (ring.size() < 2 || ring.size() < 12 && words.get(at[0]).matches("[0-9]+")) {
                    int a = number(words, places, at, 0, n - 1);
                    if (ring.contains(a)) {
                        throw new Fault(2, places.get(at[0] - 1));
                    }
                    ring.add(a);
                }
                for (int i = 0; i < ring.size(); i++) {
                    int a = ring.get(i);
                    int b = ring.get((i + 1) % ring.size());
                    setWeight(s, a, b, s.weight[a][b] == NONE ? 1 : s.weight[a][b]);
                }
            } else {
                throw new Fault(1, places.get(at[0] - 1));
            }
            expect(words, places, at, ";");
        }
        for (int[] p : pairs) {
            clash |= s.weight[p[0]][p[1]] == NONE;
            s.mate[p[0]] = p[1];
            s.mate[p[1]] = p[0];
        }
        if (clash) {
            throw new Fault(3, text.length());
        }
        return s;
    }

    private static void expect(List<String> words, List<Integer> places, int[] at, String want) throws Fault {
        if (!words.get(at[0]).equals(want)) {
            throw new Fault(1, places.get(at[0]));
        }
        at[0]++;
    }

    private static int number(List<String> words, List<Integer> places, int[] at, int least, int most) throws Fault {
        String word = words.get(at[0]);
        if (!word.matches("[0-9]+")) {
            throw new Fault(1, places.get(at[0]));
        }
        BigInteger value = new BigInteger(word);
        if (value.compareTo(BigInteger.valueOf(least)) < 0 || value.compareTo(BigInteger.valueOf(most)) > 0) {
            throw new Fault(2, places.get(at[0]));
        }
        at[0]++;
        return value.intValue();
    }

    int text(int n) {
        argument(n >= 0 && n <= tape.length());
        String text = tape.substring(0, n);
        tape.setLength(0);
        State next;
        try {
            next = parse(text);
        } catch (Fault f) {
            faultPlace = f.place;
            return f.kind - 10;
        }
        faultPlace = NONE;
        act();
        now = next;
        return lines();
    }

    int fault() {
        return faultPlace;
    }

    // ---- acts

    private void act() {
        past.add(now.copy());
        if (past.size() > 8) {
            past.remove(0);
        }
        greatestRows = null;
    }

    int join(int a, int b, int weight) {
        nodesExist(a, b);
        argument(a != b && weight >= 0 && weight <= 999);
        act();
        setWeight(now, a, b, weight);
        return lines();
    }

    int cut(int a, int b) {
        nodesExist(a, b);
        argument(a != b);
        state(isLine(a, b));
        act();
        setWeight(now, a, b, NONE);
        if (now.mate[a] == b) {
            now.mate[a] = NONE;
            now.mate[b] = NONE;
        }
        return lines();
    }

    int pair(int a, int b) {
        nodesExist(a, b);
        argument(a != b);
        state(isLine(a, b) && now.mate[a] == NONE && now.mate[b] == NONE);
        act();
        now.mate[a] = b;
        now.mate[b] = a;
        return pairs();
    }

    int part(int a) {
        nodesExist(a);
        state(now.mate[a] != NONE);
        act();
        int b = now.mate[a];
        now.mate[a] = NONE;
        now.mate[b] = NONE;
        return b;
    }

    int better(int a) {
        nodesExist(a);
        List<Integer> best = betterPath(a);
        state(best != null);
        act();
        Set<Integer> parted = new HashSet<>(best);
        for (int x : parted) {
            now.mate[x] = NONE;
        }
        for (int i = 0; i < best.size(); i += 2) {
            now.mate[best.get(i)] = best.get(i + 1);
            now.mate[best.get(i + 1)] = best.get(i);
        }
        return pairs();
    }

    int finish() {
        int before = pairs();
        int[] first = first();
        act();
        now.mate = first.clone();
        return pairs() - before;
    }

    int shrink(int a) {
        nodesExist(a);
        List<Integer> ring = flowerRow(a);
        state(ring != null);
        act();
        State old = now;
        List<Integer> stay = new ArrayList<>();
        for (int x = 0; x < old.mate.length; x++) {
            if (x == a || !ring.contains(x)) {
                stay.add(x);
            }
        }
        State s = new State(stay.size());
        for (int i = 0; i < stay.size(); i++) {
            for (int j = 0; j < stay.size(); j++) {
                int x = stay.get(i);
                int y = stay.get(j);
                if (x != y && x != a && y != a) {
                    s.weight[i][j] = old.weight[x][y];
                }
                if (x == a && y != a) {
                    for (int r : ring) {
                        setWeight(s, i, j, Math.max(s.weight[i][j], old.weight[r][y]));
                    }
                }
            }
            s.mate[i] = old.mate[stay.get(i)] == NONE ? NONE : stay.indexOf(old.mate[stay.get(i)]);
        }
        now = s;
        return nodes();
    }

    int undo() {
        if (past.isEmpty()) {
            return NONE;
        }
        now = past.remove(past.size() - 1);
        greatestRows = null;
        return past.size();
    }

    // ---- counting

    private int lines() {
        int count = 0;
        for (int a = 0; a < nodes(); a++) {
            for (int b = 0; b < a; b++) {
                count += isLine(a, b) ? 1 : 0;
            }
        }
        return count;
    }

    private static int joined(int[] row) {
        int count = 0;
        for (int mate : row) {
            count += mate == NONE ? 0 : 1;
        }
        return count / 2;
    }

    private int pairs() {
        return joined(now.mate);
    }

    private int weigh(int[] row) {
        int sum = 0;
        for (int a = 0; a < row.length; a++) {
            sum += row[a] > a ? now.weight[a][row[a]] : 0;
        }
        return sum;
    }

    /** The rows of all greatest matchings. */
    private List<int[]> greatest() {
        if (greatestRows == null) {
            List<int[]> all = new ArrayList<>();
            int[] row = new int[nodes()];
            Arrays.fill(row, NONE);
            matchings(0, row, all);
            int most = 0;
            for (int[] r : all) {
                most = Math.max(most, joined(r));
            }
            greatestRows = new ArrayList<>();
            for (int[] r : all) {
                if (joined(r) == most) {
                    greatestRows.add(r);
                }
            }
        }
        return greatestRows;
    }

    private void matchings(int a, int[] row, List<int[]> all) {
        if (a == nodes()) {
            all.add(row.clone());
            return;
        }
        matchings(a + 1, row, all);
        if (row[a] != NONE) {
            return;
        }
        for (int b = a + 1; b < nodes(); b++) {
            if (row[b] == NONE && isLine(a, b)) {
                row[a] = b;
                row[b] = a;
                matchings(a + 1, row, all);
                row[a] = NONE;
                row[b] = NONE;
            }
        }
    }

    private int[] first() {
        int[] best = null;
        for (int[] r : greatest()) {
            if (best == null || isLess(r, best)) {
                best = r;
            }
        }
        return best;
    }

    private static boolean isLess(int[] r, int[] s) {
        for (int i = 0; i < r.length; i++) {
            int x = r[i] == NONE ? 99 : r[i];
            int y = s[i] == NONE ? 99 : s[i];
            if (x != y) {
                return x < y;
            }
        }
        return false;
    }

    // ---- questions

    int told(int what) {
        argument(what >= 0 && what < 8);
        int most = joined(greatest().get(0));
        return new int[] {nodes(), lines(), pairs(), most, nodes() - 2 * most, weigh(now.mate),
            tape.length(), past.size()}[what];
    }

    int line(int a, int b, int what) {
        nodesExist(a, b);
        argument(a != b && what >= 0 && what < 5);
        int have = 0;
        for (int[] r : greatest()) {
            have += r[a] == b ? 1 : 0;
        }
        return new int[] {isLine(a, b) ? 1 : 0, now.weight[a][b], now.mate[a] == b ? 1 : 0,
            have > 0 ? 1 : 0, have == greatest().size() ? 1 : 0}[what];
    }

    int node(int a, int what) {
        nodesExist(a);
        argument(what >= 0 && what < 5);
        if (what == 0) {
            int count = 0;
            for (int b = 0; b < nodes(); b++) {
                count += isLine(a, b) ? 1 : 0;
            }
            return count;
        }
        if (what == 1) {
            return now.mate[a];
        }
        return what == 2 ? labels()[a] : what == 3 ? setOf(a) : first()[a];
    }

    private boolean isMissed(int a) {
        for (int[] r : greatest()) {
            if (r[a] == NONE) {
                return true;
            }
        }
        return false;
    }

    private int setOf(int a) {
        if (isMissed(a)) {
            return 0;
        }
        for (int b = 0; b < nodes(); b++) {
            if (isLine(a, b) && isMissed(b)) {
                return 1;
            }
        }
        return 2;
    }

    private int[] labels() {
        int[] label = new int[nodes()];
        Arrays.fill(label, 2);
        for (int a = 0; a < nodes(); a++) {
            if (now.mate[a] == NONE) {
                List<Integer> row = new ArrayList<>();
                row.add(a);
                walk(row, label, null);
            }
        }
        return label;
    }

    /** Goes every path on from this one; marks where it leads, collects those that better. */
    private void walk(List<Integer> row, int[] label, List<List<Integer>> found) {
        int end = row.get(row.size() - 1);
        int lines = row.size() - 1;
        if (label != null) {
            label[end] = lines % 2 == 0 ? 0 : Math.min(label[end], 1);
        }
        if (found != null && lines > 0 && now.mate[end] == NONE) {
            found.add(new ArrayList<>(row));
        }
        for (int b = 0; b < nodes(); b++) {
            boolean isPair = now.mate[end] == b;
            if (isLine(end, b) && !row.contains(b) && isPair == (lines % 2 == 1)) {
                row.add(b);
                walk(row, label, found);
                row.remove(row.size() - 1);
            }
        }
    }

    private static List<Integer> least(List<List<Integer>> rows) {
        List<Integer> best = null;
        for (List<Integer> row : rows) {
            if (best == null || row.size() < best.size()
                    || row.size() == best.size() && isLessRow(row, best)) {
                best = row;
            }
        }
        return best;
    }

    private static boolean isLessRow(List<Integer> r, List<Integer> s) {
        for (int i = 0; i < r.size(); i++) {
            if (!r.get(i).equals(s.get(i))) {
                return r.get(i) < s.get(i);
            }
        }
        return false;
    }

    private List<Integer> betterPath(int a) {
        if (now.mate[a] != NONE) {
            return null;
        }
        List<List<Integer>> found = new ArrayList<>();
        List<Integer> row = new ArrayList<>();
        row.add(a);
        walk(row, null, found);
        return least(found);
    }

    private List<Integer> flowerRow(int a) {
        List<List<Integer>> found = new ArrayList<>();
        List<Integer> row = new ArrayList<>();
        row.add(a);
        rings(row, found);
        return least(found);
    }

    private void rings(List<Integer> row, List<List<Integer>> found) {
        int end = row.get(row.size() - 1);
        if (isFlower(row)) {
            found.add(new ArrayList<>(row));
        }
        for (int b = 0; b < nodes(); b++) {
            // All but the last one and the first one have their neighbours by now.
            boolean hopeless = row.size() >= 2 && !row.subList(1, row.size()).contains(now.mate[end])
                && now.mate[end] != b;
            if (isLine(end, b) && !row.contains(b) && !hopeless) {
                row.add(b);
                rings(row, found);
                row.remove(row.size() - 1);
            }
        }
    }

    private boolean isFlower(List<Integer> ring) {
        int size = ring.size();
        if (size < 3 || size % 2 == 0 || !isLine(ring.get(0), ring.get(size - 1))) {
            return false;
        }
        if (ring.contains(now.mate[ring.get(0)])) {
            return false;
        }
        for (int i = 1; i < size; i++) {
            int mate = now.mate[ring.get(i)];
            if (mate == NONE || mate != ring.get(i - 1) && mate != ring.get((i + 1) % size)) {
                return false;
            }
        }
        return true;
    }

    int sets(int what) {
        argument(what >= 0 && what < 6);
        int bits = 0;
        int[] label = labels();
        for (int a = 0; a < nodes(); a++) {
            boolean in = what < 3 ? setOf(a) == what : label[a] == what - 3;
            bits |= in ? 1 << a : 0;
        }
        return bits;
    }

    int odd(int set) {
        argument(set >= 0 && set < 1 << nodes());
        return countOdd(set);
    }

    private int countOdd(int set) {
        boolean[] seen = new boolean[nodes()];
        int count = 0;
        for (int a = 0; a < nodes(); a++) {
            count += partSize(a, set, seen) % 2;
        }
        return count;
    }

    private int partSize(int a, int set, boolean[] seen) {
        if (seen[a] || (set >> a & 1) == 1) {
            return 0;
        }
        seen[a] = true;
        int size = 1;
        for (int b = 0; b < nodes(); b++) {
            size += isLine(a, b) ? partSize(b, set, seen) : 0;
        }
        return size;
    }

    int barrier(int what) {
        argument(what == 0 || what == 1);
        int missing = nodes() - 2 * joined(greatest().get(0));
        int best = NONE;
        for (int set = 0; set < 1 << nodes(); set++) {
            int size = Integer.bitCount(set);
            int bestSize = Integer.bitCount(best);
            if (countOdd(set) - size == missing
                    && (best == NONE || (what == 0 ? size < bestSize : size > bestSize))) {
                best = set;
            }
        }
        return best;
    }

    int ways() {
        return greatest().size();
    }

    int heavy(int what) {
        argument(what == 0 || what == 1);
        int best = weigh(greatest().get(0));
        for (int[] r : greatest()) {
            best = what == 0 ? Math.max(best, weigh(r)) : Math.min(best, weigh(r));
        }
        return best;
    }

    int path(int a, int i) {
        nodesExist(a);
        return placeIn(betterPath(a), i, 1);
    }

    int flower(int a, int i) {
        nodesExist(a);
        return placeIn(flowerRow(a), i, 0);
    }

    private int placeIn(List<Integer> row, int i, int less) {
        if (row == null) {
            return NONE;
        }
        if (i == NONE) {
            return row.size() - less;
        }
        if (i < 0 || i >= row.size()) {
            throw no(new NoSuchElementException());
        }
        return row.get(i);
    }

    long print() {
        long sum = 0;
        for (int mate : now.mate) {
            sum = 31 * sum + mate;
        }
        for (int a = 0; a < nodes(); a++) {
            for (int b = a + 1; b < nodes(); b++) {
                sum = isLine(a, b) ? 31 * sum + now.weight[a][b] : sum;
            }
        }
        return sum;
    }

    int status(int what) {
        return what >= 0 && what < 3 ? refused[what] : NONE;
    }
}
