import java.lang.reflect.Array;
import java.lang.reflect.Field;
import java.lang.reflect.Modifier;
import java.nio.file.Files;
import java.nio.file.Path;
import java.util.ArrayList;
import java.util.Collections;
import java.util.IdentityHashMap;
import java.util.List;
import java.util.Set;

/** All calls of a run live in one room: even if each of them made a new object, they must fit. */
public final class RoomTest extends Checks {
    private static final int CALLS = 512;
    private static final int MOST_OBJECTS = 600_000;
    private static final int MOST_PLACES = 7_300_000;

    private final Set<Object> seen = Collections.newSetFromMap(new IdentityHashMap<>());
    private final List<Object> open = new ArrayList<>();
    private int places = 0;

    private RoomTest(Object first) throws IllegalAccessException {
        reach(first);
        while (!open.isEmpty()) {
            Object next = open.remove(open.size() - 1);
            if (next.getClass().isArray()) {
                countArray(next);
            } else {
                countFields(next);
            }
        }
    }

    public static void main(String[] args) throws Exception {
        OddPairs x = new OddPairs();
        RoomTest made = new RoomTest(x);
        notAbove("objects of " + CALLS + " calls", made.seen.size() * CALLS, MOST_OBJECTS);
        notAbove("fields and elements of " + CALLS + " calls", made.places * CALLS, MOST_PLACES);
        useAll(x);
        RoomTest used = new RoomTest(x);
        notAbove("objects behind many calls", used.seen.size(), made.seen.size());
        notAbove("fields and elements behind many calls", used.places, made.places);
        System.out.println("one object takes " + made.seen.size() + " objects and arrays, "
            + made.places + " fields and elements");
        checkSource(Files.readString(Path.of("src/main/java/OddPairs.java")));
        if (wrong > 0) {
            System.exit(1);
        }
    }

    private void reach(Object next) {
        if (next != null && seen.add(next)) {
            open.add(next);
        }
    }

    private void countArray(Object array) {
        places += Array.getLength(array);
        if (array instanceof Object[] row) {
            for (Object next : row) {
                reach(next);
            }
        }
    }

    private void countFields(Object owner) throws IllegalAccessException {
        for (Field f : owner.getClass().getDeclaredFields()) {
            if (!Modifier.isStatic(f.getModifiers())) {
                places++;
                f.setAccessible(true);
                if (!f.getType().isPrimitive()) {
                    reach(f.get(owner));
                }
            }
        }
    }

    private static void notAbove(String what, int got, int most) {
        if (got > most) {
            complain(what + " are " + got + ", at most " + most + " are due");
        }
    }

    private static void useAll(OddPairs x) {
        for (int i = 0; i < 20; i++) {
            tell(x, "nodes 12; all; pair 0 1; pair 2 3; pair 4 5; pair 6 7; pair 8 9;");
            x.join(0, 1, i);
            x.better(10);
            x.part(0);
            x.finish();
            x.cut(0, 1);
            x.shrink(0);
            x.undo();
            x.ways();
            x.barrier(i % 2);
            x.sets(i % 6);
            x.path(0, OddPairs.NONE);
            tell(x, "nodes 12; ring 0 0;");
        }
    }

    /** What a call makes and drops is in the room, too: nothing is made but by constructors and throws. */
    private static void checkSource(String source) {
        String code = source.replaceAll("(?s)/\\*.*?\\*/", "").replaceAll("//[^\n]*", "");
        for (String line : code.split("\n")) {
            boolean kept = line.matches(" +(private )?final .* = new [^;]+;")
                || line.matches(" +(past\\[i\\]|bytes) = new [^;]+;");
            if (line.contains("new ") && !kept && !line.contains("throw new ")) {
                complain("made in a call: " + line.trim());
            }
            if (line.matches(".*\\b(copyOf|copyOfRange|clone|toCharArray|substring|values)\\(.*")) {
                complain("makes a copy: " + line.trim());
            }
        }
    }
}
