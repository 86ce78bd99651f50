import java.lang.reflect.Constructor;
import java.lang.reflect.Field;
import java.lang.reflect.Method;
import java.lang.reflect.Modifier;
import java.nio.file.Files;
import java.nio.file.Path;
import java.util.Arrays;
import java.util.List;
import java.util.Set;
import java.util.TreeSet;

/** The public face, to the letter, and those rules of LANGUAGE.md that can be seen from outside. */
public final class FaceTest {
    private static final String[] FACE = {
        "int atoms(int)", "int pair(int, int)", "int converse(int)", "int triangle(int, int, int, int)",
        "int isIn(int, int, int)", "int compose(int, int)", "int over(int, int, int)", "int power(int, int)",
        "int equivalence(int)", "int solved(int, int, int, int)", "int broken(int)", "int cycles(int)",
        "int node(int, int)", "int drop(int)", "int label(int, int, int)", "int relabel(int, int, int, int)",
        "int copy(int, int)", "int sound(int)", "int gap(int, int)", "int fills(int, int, int)",
        "int occurs(int, int, int)", "int forbid(int)", "int won(int, int)", "int killer(int, int)",
        "int lasts(int)", "int begin(int)", "int ask(int)", "int answer(int)", "int later()", "int board(int)",
        "int take(int)", "int judge(int)", "int found(int)", "int list(int, int)", "int put(int, int, long)",
        "long get(int, int)", "int feed(int)", "int wipe()", "int read()", "int spelled(int)", "int image()",
        "int undo()", "int count(int)"};
    private static final String[] WORDS_OUTSIDE = {
        "throw", "throws", "try", "catch", "synchronized", "assert", "import", "package", "instanceof", "protected"};

    public static void main(String[] args) throws Exception {
        methods();
        constants();
        members();
        nested();
        source();
        Check.end("FaceTest");
    }

    private static void methods() {
        Set<String> due = new TreeSet<>(Arrays.asList(FACE));
        Set<String> got = new TreeSet<>();
        for (Method m : AtomTables.class.getDeclaredMethods()) {
            if (Modifier.isPrivate(m.getModifiers())) continue;
            String takes = Arrays.toString(m.getParameterTypes());
            got.add(m.getReturnType() + " " + m.getName() + "(" + takes.substring(1, takes.length() - 1) + ")");
            Check.holds(m + " is public", Modifier.isPublic(m.getModifiers()) && !Modifier.isStatic(m.getModifiers()));
        }
        Check.holds("the face is " + due + ", not " + got, due.equals(got));
    }

    private static void constants() throws Exception {
        String[] names = {"NONE", "BAD", "STATE", "FULL", "NOT", "MISSING", "PLACE", "BELOW"};
        int[] values = {-1, -2, -3, -4, -5, -11, -13, -14};
        for (int i = 0; i < names.length; i++) {
            Field f = AtomTables.class.getField(names[i]);
            Check.holds(names[i] + " is an int", f.getType() == int.class);
            Check.due(names[i], f.getInt(null), values[i]);
        }
        Check.due("VOID", AtomTables.class.getField("VOID").getLong(null), Long.MIN_VALUE);
        Check.due("constants", AtomTables.class.getFields().length, 9);
    }

    private static void members() {
        int mods = AtomTables.class.getModifiers();
        Check.holds("public and final", Modifier.isPublic(mods) && Modifier.isFinal(mods));
        Constructor<?>[] makers = AtomTables.class.getDeclaredConstructors();
        Check.due("constructors", makers.length, 1);
        Check.holds("public, without arguments",
            Modifier.isPublic(makers[0].getModifiers()) && makers[0].getParameterCount() == 0);
        for (Field f : AtomTables.class.getDeclaredFields()) {
            int m = f.getModifiers();
            Check.holds(f + " is public and final or private", Modifier.isPrivate(m) || Modifier.isPublic(m) && Modifier.isFinal(m));
            Check.holds(f + " is final, if static", !Modifier.isStatic(m) || Modifier.isFinal(m));
        }
    }

    private static void nested() {
        Set<String> face = new TreeSet<>();
        for (Method m : AtomTables.class.getMethods()) face.add(m.getName());
        Class<?>[] inside = AtomTables.class.getDeclaredClasses();
        Check.holds("twelve classes at most", inside.length < 12);
        for (Class<?> c : inside) {
            int mods = c.getModifiers();
            Check.holds(c + " is static", Modifier.isStatic(mods));
            Check.holds(c + " is not public", !Modifier.isPublic(mods) && !Modifier.isProtected(mods));
            Check.holds(c + " has twenty fields at most", c.getDeclaredFields().length <= 20);
            for (Method m : c.getDeclaredMethods()) {
                Check.holds(m + " bears no name of the face", !face.contains(m.getName()));
                Check.holds(m + " has seven parameters at most", m.getParameterCount() <= 7);
            }
        }
        for (Method m : AtomTables.class.getDeclaredMethods()) {
            if (Modifier.isPrivate(m.getModifiers())) {
                Check.holds(m + " bears no name of the face", !face.contains(m.getName()));
            }
        }
    }

    private static void source() throws Exception {
        List<String> lines = Files.readAllLines(Path.of("src/main/java/AtomTables.java"));
        for (int i = 0; i < lines.size(); i++) {
            String where = "line " + (i + 1) + ": ";
            String code = lines.get(i).replaceAll("//.*|/\\*.*|^\\s*\\*.*", "").replaceAll("\"[^\"]*\"", "\"\"");
            for (String word : WORDS_OUTSIDE) Check.holds(where + "no " + word, !code.matches(".*\\b" + word + "\\b.*"));
            Check.holds(where + "no lambda, no method reference", !code.contains("->") && !code.contains("::"));
            Check.holds(where + "objects are made in initialisers and constructors alone", !code.contains("new ") || isMaking(code));
            if (code.matches("( {4}| {8})\\w.*\\) \\{")) Check.holds(where + "sixty lines at most", length(lines, i) <= 60);
        }
    }

    /** A field's initialiser, or a part that a constructor makes. */
    private static boolean isMaking(String code) {
        boolean field = code.matches("( {4}| {8})(private )?final .* = new .*");
        return field || code.matches(" +(this\\.rows|rows\\[r\\]|nets\\[net\\]) = new .*");
    }

    /** How many lines a method has whose head stands there. */
    private static int length(List<String> lines, int head) {
        String indent = lines.get(head).replaceAll("\\S.*", "");
        int end = head;
        while (!lines.get(end).equals(indent + "}")) end++;
        return end - head + 1;
    }
}
