import java.io.IOException;
import java.lang.reflect.InvocationTargetException;
import java.lang.reflect.Method;
import java.lang.reflect.Modifier;
import java.nio.file.Files;
import java.nio.file.Path;
import java.util.Set;
import java.util.TreeSet;
import java.util.regex.Matcher;
import java.util.regex.Pattern;

/** Makes the calls that README.md shows, in its order, and compares what it says that they answer. */
public final class ReadmeTest extends Checks {
    private static final Pattern BLOCK = Pattern.compile("```java\n(.*?)```", Pattern.DOTALL);
    private static final Pattern CALL = Pattern.compile("x\\.([a-z]+)\\((.*)\\); +// ([A-Za-z0-9-]+): .+");
    private static final Pattern TOLD = Pattern.compile("tell\\(x, \"([^\"]*)\"\\); +// ([A-Za-z0-9-]+): .+");
    private static final String MADE = "OddPairs x = new OddPairs();";

    private static final Set<String> CALLED = new TreeSet<>();
    private static OddPairs x = null;

    private ReadmeTest() {
    }

    public static void main(String[] args) throws IOException, ReflectiveOperationException {
        about = "README.md: ";
        String readme = Files.readString(Path.of("README.md"));
        String helpers = Files.readString(Path.of("src/test/java/Checks.java"));
        Matcher blocks = BLOCK.matcher(readme);
        while (blocks.find()) {
            String block = blocks.group(1);
            if (block.startsWith(" ")) {
                checkHelper(block, helpers);
            } else {
                makeCalls(block);
            }
        }
        same("the methods that are shown", CALLED.toString(), face().toString());
        if (wrong > 0) {
            System.exit(1);
        }
    }

    /** What is shown as a method of one's own is what these tests use themselves. */
    private static void checkHelper(String block, String helpers) {
        if (!helpers.contains(block)) {
            complain("this is not what Checks.java has:\n" + block);
        }
    }

    private static void makeCalls(String block) throws ReflectiveOperationException {
        for (String line : block.split("\n")) {
            Matcher call = CALL.matcher(line);
            Matcher told = TOLD.matcher(line);
            if (line.equals(MADE)) {
                x = new OddPairs();
            } else if (call.matches()) {
                CALLED.add(call.group(1));
                same(line, answer(call.group(1), call.group(2)), call.group(3));
            } else if (told.matches()) {
                same(line, plain(tell(x, told.group(1))), told.group(2));
            } else {
                complain("what is that? " + line);
            }
        }
    }

    private static String answer(String name, String arguments) throws ReflectiveOperationException {
        String[] words = arguments.isEmpty() ? new String[0] : arguments.split(", ");
        Class<?>[] types = new Class<?>[words.length];
        Object[] numbers = new Object[words.length];
        for (int i = 0; i < words.length; i++) {
            types[i] = int.class;
            numbers[i] = words[i].equals("OddPairs.NONE") ? OddPairs.NONE : Integer.decode(words[i]);
        }
        try {
            return plain(((Number) OddPairs.class.getMethod(name, types).invoke(x, numbers)).longValue());
        } catch (InvocationTargetException e) {
            return e.getCause().getClass().getSimpleName();
        }
    }

    private static String plain(long answer) {
        return answer == OddPairs.NONE ? "NONE" : Long.toString(answer);
    }

    private static Set<String> face() {
        Set<String> names = new TreeSet<>();
        for (Method m : OddPairs.class.getDeclaredMethods()) {
            if (Modifier.isPublic(m.getModifiers())) {
                names.add(m.getName());
            }
        }
        return names;
    }
}
