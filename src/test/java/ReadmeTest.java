import java.lang.reflect.Field;
import java.lang.reflect.Method;
import java.lang.reflect.Modifier;
import java.nio.file.DirectoryStream;
import java.nio.file.Files;
import java.nio.file.Path;
import java.util.List;
import java.util.Set;
import java.util.TreeSet;
import java.util.regex.Matcher;
import java.util.regex.Pattern;

/** README.md: the calls that it shows are made, line by line, and answer what it says. */
public final class ReadmeTest {
    private static final String MAKING = "AtomTables x = new AtomTables();";
    private static final Pattern FEEDING =
        Pattern.compile("for \\(char letter : \"([ -~]*)\"\\.toCharArray\\(\\)\\) x\\.feed\\(letter\\);");
    private static final Pattern CALL = Pattern.compile("x\\.(\\w+)\\(([^()]*)\\); +// (-?\\d+|[A-Z]+)(: .*)?");
    private static final Pattern REFUSAL = Pattern.compile("\\| `([A-Z]+)` \\| (-\\d+) \\| .+ \\|");
    /** An object is used for so many calls. */
    private static final int CALLS = 512;

    private static AtomTables x = null;
    private static int calls = 0;
    private static final Set<String> shown = new TreeSet<>();
    private static final Set<String> answered = new TreeSet<>();

    public static void main(String[] args) throws Exception {
        List<String> lines = Files.readAllLines(Path.of("README.md"));
        blocks(lines);
        Check.in("README.md");
        Check.holds("each call of the face is shown: " + shown, shown.equals(face()));
        Check.holds("each refusal is shown: " + answered, answered.equals(constants()));
        refusals(lines);
        commands(lines);
        Check.end("ReadmeTest");
    }

    private static void blocks(List<String> lines) throws Exception {
        boolean inside = false;
        for (int i = 0; i < lines.size(); i++) {
            Check.in("README.md, line " + (i + 1));
            String line = lines.get(i);
            if (line.startsWith("```")) {
                inside = line.equals("```java");
            } else if (inside) {
                make(line);
            }
        }
        Check.holds("the last block ends", !inside);
    }

    private static void make(String line) throws Exception {
        Matcher feeding = FEEDING.matcher(line);
        Matcher call = CALL.matcher(line);
        if (line.equals(MAKING)) {
            x = new AtomTables();
            calls = 0;
        } else if (feeding.matches() && x != null) {
            for (char letter : feeding.group(1).toCharArray()) x.feed(letter);
            calls += feeding.group(1).length();
        } else if (call.matches() && x != null) {
            answer(call.group(1), call.group(2), call.group(3));
            calls++;
        } else {
            Check.holds("a line that can be made: " + line, false);
        }
        Check.holds("an object's calls are enough", calls <= CALLS);
    }

    private static void answer(String name, String numbers, String due) throws Exception {
        Method method = method(name);
        if (method == null) {
            Check.holds("there is a call " + name, false);
            return;
        }
        shown.add(name);
        if (due.matches("[A-Z]+")) answered.add(due);
        Class<?>[] types = method.getParameterTypes();
        String[] told = numbers.isEmpty() ? new String[0] : numbers.split(", ");
        Check.due("numbers of " + name, told.length, types.length);
        if (told.length != types.length) return;
        Object[] given = new Object[types.length];
        for (int i = 0; i < given.length; i++) given[i] = number(told[i], types[i]);
        Check.due(name + "(" + numbers + ")", ((Number) method.invoke(x, given)).longValue(), value(due));
    }

    private static Object number(String told, Class<?> type) {
        long number = told.matches("'.'") ? told.charAt(1) : Long.parseLong(told);
        if (type == long.class) return number;
        return Math.toIntExact(number);
    }

    private static long value(String due) throws Exception {
        if (!due.matches("[A-Z]+")) return Long.parseLong(due);
        return ((Number) AtomTables.class.getField(due).get(null)).longValue();
    }

    private static Method method(String name) {
        for (Method m : AtomTables.class.getDeclaredMethods()) {
            if (m.getName().equals(name) && Modifier.isPublic(m.getModifiers())) return m;
        }
        return null;
    }

    private static Set<String> face() {
        Set<String> names = new TreeSet<>();
        for (Method m : AtomTables.class.getDeclaredMethods()) {
            if (Modifier.isPublic(m.getModifiers())) names.add(m.getName());
        }
        return names;
    }

    private static Set<String> constants() {
        Set<String> names = new TreeSet<>();
        for (Field f : AtomTables.class.getFields()) names.add(f.getName());
        return names;
    }

    /** The table of refusals names all constants, each with its number. */
    private static void refusals(List<String> lines) throws Exception {
        Set<String> named = new TreeSet<>();
        for (String line : lines) {
            Matcher row = REFUSAL.matcher(line);
            if (row.matches()) {
                named.add(row.group(1));
                Check.due(row.group(1), Long.parseLong(row.group(2)), value(row.group(1)));
            }
        }
        Check.holds("each refusal is in the table: " + named, named.equals(constants()));
    }

    /** The command that runs the tests is told and is there; each test is named, but for those between two. */
    private static void commands(List<String> lines) throws Exception {
        int block = lines.indexOf("```sh");
        Check.holds("a command is told", block >= 0 && block + 1 < lines.size());
        Check.holds("it can be run", Files.isExecutable(Path.of(lines.get(block + 1))));
        String page = String.join("\n", lines);
        try (DirectoryStream<Path> files = Files.newDirectoryStream(Path.of("src/test/java"), "*Test.java")) {
            for (Path file : files) {
                String name = file.getFileName().toString().replace(".java", "");
                Check.holds(name + " is named", name.endsWith("BoundsTest") || page.contains("| " + name + " |"));
            }
        }
    }
}
