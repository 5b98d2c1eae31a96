import java.lang.reflect.Constructor;
import java.lang.reflect.Field;
import java.lang.reflect.Method;
import java.lang.reflect.Modifier;
import java.nio.file.Files;
import java.nio.file.Path;
import java.util.Set;
import java.util.TreeSet;

/** The face of the document and those rules of LANGUAGE.md that can be seen from outside. */
public final class FaceTest {
    private static final String[] FACE = {
        "int feed(int,int,int,int,int)",
        "int text(int) throws IllegalArgumentException",
        "int fault()",
        "int join(int,int,int) throws NoSuchElementException IllegalArgumentException",
        "int cut(int,int) throws NoSuchElementException IllegalArgumentException IllegalStateException",
        "int pair(int,int) throws NoSuchElementException IllegalArgumentException IllegalStateException",
        "int part(int) throws NoSuchElementException IllegalStateException",
        "int better(int) throws NoSuchElementException IllegalStateException",
        "int finish()",
        "int shrink(int) throws NoSuchElementException IllegalStateException",
        "int undo()",
        "int told(int) throws IllegalArgumentException",
        "int line(int,int,int) throws NoSuchElementException IllegalArgumentException",
        "int node(int,int) throws NoSuchElementException IllegalArgumentException",
        "int sets(int) throws IllegalArgumentException",
        "int odd(int) throws IllegalArgumentException",
        "int barrier(int) throws IllegalArgumentException",
        "int ways()",
        "int heavy(int) throws IllegalArgumentException",
        "int path(int,int) throws NoSuchElementException",
        "int flower(int,int) throws NoSuchElementException",
        "long print()",
        "int status(int)"};

    private static final String[] BANNED = {
        "catch", "finally", "->", "::", "synchronized", "assert", "Exact", "static {", "try", "toString",
        "hashCode", "getMessage", "System.out", "protected", "\" +", "+ \"", "lambda", "package "};

    private static int wrong = 0;

    public static void main(String[] args) throws Exception {
        checkMethods();
        checkMembers();
        for (Class<?> inner : OddPairs.class.getDeclaredClasses()) {
            checkInner(inner);
        }
        due(OddPairs.class.getDeclaredClasses().length + 1 <= 12, "at most twelve classes");
        checkSource(Files.readString(Path.of("src/main/java/OddPairs.java")));
        if (wrong > 0) {
            System.exit(1);
        }
    }

    private static void due(boolean holds, String what) {
        if (!holds) {
            wrong++;
            System.out.println("broken: " + what);
        }
    }

    private static void checkMethods() {
        Set<String> want = new TreeSet<>(Set.of(FACE));
        Set<String> names = new TreeSet<>();
        Set<String> got = new TreeSet<>();
        for (Method m : OddPairs.class.getDeclaredMethods()) {
            if (!Modifier.isPrivate(m.getModifiers())) {
                due(Modifier.isPublic(m.getModifiers()), m + " is public or private");
                names.add(m.getName());
                got.add(signature(m));
            }
        }
        due(got.equals(want), "the face: " + got);
        for (Method m : OddPairs.class.getDeclaredMethods()) {
            due(!Modifier.isPrivate(m.getModifiers()) || !names.contains(m.getName()), m + " bears a name of the face");
        }
        for (Class<?> inner : OddPairs.class.getDeclaredClasses()) {
            for (Method m : inner.getDeclaredMethods()) {
                due(!names.contains(m.getName()), m + " bears a name of the face");
            }
        }
    }

    private static String signature(Method m) {
        StringBuilder s = new StringBuilder(m.getReturnType() + " " + m.getName() + "(");
        for (Class<?> p : m.getParameterTypes()) {
            s.append(p).append(',');
        }
        s = new StringBuilder(s.toString().replaceAll(",$", "") + ")");
        for (Class<?> e : m.getExceptionTypes()) {
            s.append(s.indexOf("throws") < 0 ? " throws " : " ").append(e.getSimpleName());
        }
        return s.toString();
    }

    private static void checkMembers() throws Exception {
        due(Modifier.isFinal(OddPairs.class.getModifiers()), "the class is final");
        Constructor<?>[] all = OddPairs.class.getDeclaredConstructors();
        due(all.length == 1 && all[0].getParameterCount() == 0 && Modifier.isPublic(all[0].getModifiers()),
            "one public constructor");
        Field none = OddPairs.class.getDeclaredField("NONE");
        due(none.getModifiers() == (Modifier.PUBLIC | Modifier.STATIC | Modifier.FINAL), "NONE is a public constant");
        due(none.getType() == int.class && none.getInt(null) == -1, "NONE is the int -1");
        for (Field f : OddPairs.class.getDeclaredFields()) {
            due(f.equals(none) || Modifier.isPrivate(f.getModifiers()), f + " is private");
        }
        checkFields(OddPairs.class);
    }

    private static void checkInner(Class<?> inner) {
        due(Modifier.isStatic(inner.getModifiers()) && !Modifier.isPublic(inner.getModifiers()), inner + " is static");
        checkFields(inner);
    }

    private static void checkFields(Class<?> of) {
        int count = 0;
        for (Field f : of.getDeclaredFields()) {
            boolean isStatic = Modifier.isStatic(f.getModifiers());
            due(!isStatic || Modifier.isFinal(f.getModifiers()), f + " is final");
            count += isStatic ? 0 : 1;
        }
        due(count <= 20, of + " has at most twenty fields");
        for (Method m : of.getDeclaredMethods()) {
            due(m.getParameterCount() <= 7, m + " has at most seven parameters");
        }
    }

    private static void checkSource(String source) {
        String code = source.replaceAll("(?s)/\\*.*?\\*/", "").replaceAll("//[^\n]*", "");
        for (String word : BANNED) {
            due(!code.contains(word), "no '" + word + "'");
        }
        for (String line : code.split("\n")) {
            boolean known = line.equals("import java.util.Arrays;") || line.equals("import java.util.NoSuchElementException;");
            due(!line.startsWith("import") || known, line);
            due(!line.contains("throw ") || line.matches(" *throw new [A-Za-z]+\\(\"[^\"]*\"\\);"), line);
        }
        int from = -1;
        String[] lines = source.split("\n");
        for (int i = 0; i < lines.length; i++) {
            if (lines[i].matches("( {4}| {8})[a-zA-Z].*\\).*\\{")) {
                from = i;
            }
            due(from < 0 || !lines[i].matches("( {4}| {8})\\}") || i - from <= 60, "a long method ends at line " + (i + 1));
        }
    }
}
