import java.lang.reflect.Constructor;
import java.lang.reflect.Field;
import java.lang.reflect.Method;
import java.lang.reflect.Modifier;
import java.nio.file.Files;
import java.nio.file.Path;
import java.util.Arrays;
import java.util.List;
import java.util.Set;
import java.util.TreeSet;
import java.util.regex.Matcher;
import java.util.regex.Pattern;

/** The public face, by the document's own lines, and those rules of LANGUAGE.md that can be seen from outside. */
public final class FaceTest {
    private static final Pattern METHOD = Pattern.compile("public (int|long) (\\w+)\\((.*)\\);");
    private static final Pattern CONSTANTS = Pattern.compile("public static final (int|long) (.*);");
    private static final Pattern PROMISE = Pattern.compile("## Promise (\\d+): (.*)");
    private static final String[] WORDS_OUTSIDE = {
        "throw", "throws", "try", "catch", "synchronized", "assert", "import", "package", "instanceof", "protected"};

    public static void main(String[] args) throws Exception {
        List<String> document = Files.readAllLines(Path.of("../shared/DOC.md"));
        methods(face(document));
        constants(face(document));
        promises(document);
        members();
        nested();
        source();
        Check.end("FaceTest");
    }

    /** The lines of the document's face. */
    private static List<String> face(List<String> document) {
        int head = document.indexOf("## The public face");
        int from = head + document.subList(head, document.size()).indexOf("```java") + 1;
        int to = from + document.subList(from, document.size()).indexOf("```");
        return document.subList(from, to);
    }

    private static void methods(List<String> face) {
        Set<String> due = new TreeSet<>();
        for (String line : face) {
            Matcher method = METHOD.matcher(line.strip());
            if (method.matches()) due.add(method.group(1) + " " + method.group(2) + "(" + types(method.group(3)) + ")");
        }
        Set<String> got = new TreeSet<>();
        for (Method m : AtomTables.class.getDeclaredMethods()) {
            if (Modifier.isPrivate(m.getModifiers())) continue;
            String takes = Arrays.toString(m.getParameterTypes());
            got.add(m.getReturnType() + " " + m.getName() + "(" + takes.substring(1, takes.length() - 1) + ")");
            Check.holds(m + " is public", Modifier.isPublic(m.getModifiers()) && !Modifier.isStatic(m.getModifiers()));
        }
        Check.due("methods of the face", due.size(), 43);
        Check.holds("the face is " + due + ", not " + got, due.equals(got));
    }

    private static String types(String parameters) {
        return parameters.replaceAll("(int|long) \\w+", "$1");
    }

    private static void constants(List<String> face) throws Exception {
        int told = 0;
        for (String line : face) {
            Matcher constants = CONSTANTS.matcher(line.strip());
            if (!constants.matches()) continue;
            for (String one : constants.group(2).split(", ")) {
                String[] parts = one.split(" = ");
                Field f = AtomTables.class.getField(parts[0]);
                Check.holds(one + " has its type", f.getType().getName().equals(constants.group(1)));
                Check.due(one, f.getLong(null), parts[1].equals("Long.MIN_VALUE") ? Long.MIN_VALUE : Long.parseLong(parts[1]));
                told++;
            }
        }
        Check.due("constants of the face", told, 9);
        Check.due("constants", AtomTables.class.getFields().length, told);
    }

    /** Each call has one promise, and the first promise is that of the constructor. */
    private static void promises(List<String> document) {
        Set<String> names = new TreeSet<>();
        int last = 0;
        for (String line : document) {
            Matcher promise = PROMISE.matcher(line);
            if (!promise.matches()) continue;
            last++;
            Check.due("the number of " + line, Integer.parseInt(promise.group(1)), last);
            if (last > 1) names.add(promise.group(2));
        }
        Check.due("promises", last, 44);
        for (Method m : AtomTables.class.getDeclaredMethods()) {
            if (Modifier.isPublic(m.getModifiers())) Check.holds(m + " is promised", names.remove(m.getName()));
        }
        Check.holds("no promise is left: " + names, names.isEmpty());
    }

    private static void members() {
        int mods = AtomTables.class.getModifiers();
        Check.holds("public and final", Modifier.isPublic(mods) && Modifier.isFinal(mods));
        Constructor<?>[] makers = AtomTables.class.getDeclaredConstructors();
        Check.due("constructors", makers.length, 1);
        Check.holds("public, without arguments",
            Modifier.isPublic(makers[0].getModifiers()) && makers[0].getParameterCount() == 0);
        for (Field f : AtomTables.class.getDeclaredFields()) {
            int m = f.getModifiers();
            Check.holds(f + " is public and final or private", Modifier.isPrivate(m) || Modifier.isPublic(m) && Modifier.isFinal(m));
            Check.holds(f + " is final, if static", !Modifier.isStatic(m) || Modifier.isFinal(m));
        }
    }

    private static void nested() {
        Set<String> face = new TreeSet<>();
        for (Method m : AtomTables.class.getMethods()) face.add(m.getName());
        Class<?>[] inside = AtomTables.class.getDeclaredClasses();
        Check.holds("twelve classes at most", inside.length < 12);
        for (Class<?> c : inside) {
            int mods = c.getModifiers();
            Check.holds(c + " is static", Modifier.isStatic(mods));
            Check.holds(c + " is not public", !Modifier.isPublic(mods) && !Modifier.isProtected(mods));
            Check.holds(c + " has twenty fields at most", c.getDeclaredFields().length <= 20);
            for (Method m : c.getDeclaredMethods()) {
                Check.holds(m + " bears no name of the face", !face.contains(m.getName()));
                Check.holds(m + " has seven parameters at most", m.getParameterCount() <= 7);
            }
        }
        for (Method m : AtomTables.class.getDeclaredMethods()) {
            if (Modifier.isPrivate(m.getModifiers())) {
                Check.holds(m + " bears no name of the face", !face.contains(m.getName()));
            }
        }
    }

    private static void source() throws Exception {
        List<String> lines = Files.readAllLines(Path.of("src/main/java/AtomTables.java"));
        for (int i = 0; i < lines.size(); i++) {
            String where = "line " + (i + 1) + ": ";
            String code = lines.get(i).replaceAll("//.*|/\\*.*|^\\s*\\*.*", "").replaceAll("\"[^\"]*\"", "\"\"");
            for (String word : WORDS_OUTSIDE) Check.holds(where + "no " + word, !code.matches(".*\\b" + word + "\\b.*"));
            Check.holds(where + "no lambda, no method reference", !code.contains("->") && !code.contains("::"));
            Check.holds(where + "objects are made in initialisers and constructors alone", !code.contains("new ") || isMaking(code));
            if (code.matches("( {4}| {8})\\w.*\\) \\{")) Check.holds(where + "sixty lines at most", length(lines, i) <= 60);
        }
    }

    /** A field's initialiser, or a part that a constructor makes. */
    private static boolean isMaking(String code) {
        boolean field = code.matches("( {4}| {8})(private )?final .* = new .*");
        return field || code.matches(" +(this\\.rows|rows\\[r\\]|nets\\[net\\]) = new .*");
    }

    /** How many lines a method has whose head stands there. */
    private static int length(List<String> lines, int head) {
        String indent = lines.get(head).replaceAll("\\S.*", "");
        int end = head;
        while (!lines.get(end).equals(indent + "}")) end++;
        return end - head + 1;
    }
}
