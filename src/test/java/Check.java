/** Counts answers that are not as due. */
final class Check {
    private static int wrong = 0;
    private static int asked = 0;
    /** The test that runs, told ahead of what is wrong in it. */
    private static String where = "";

    private Check() {
    }

    static void due(String call, long got, long want) {
        asked++;
        if (got != want) tell(call + " answered " + got + ", due is " + want);
    }

    static void holds(String what, boolean is) {
        asked++;
        if (!is) tell("it does not hold: " + what);
    }

    /** The first of what is wrong are told, all of them counted. */
    private static void tell(String fault) {
        wrong++;
        if (wrong <= 40) System.out.println(where + fault);
    }

    static void in(String test) {
        where = test.isEmpty() ? "" : test + ": ";
    }

    /** Two texts of lines are alike; if not, the first line that differs is told. */
    static void same(String what, String got, String want) {
        String[] is = got.split("\n");
        String[] due = want.split("\n");
        int line = 0;
        while (line < is.length && line < due.length && is[line].equals(due[line])) line++;
        String differs = line < is.length ? is[line] : "nothing";
        holds(what + " is as due, line " + line + ": " + differs, got.equals(want));
    }

    /** A new object whose table is told by a text. */
    static AtomTables table(String text) {
        AtomTables x = new AtomTables();
        int statements = text.split(";").length;
        due("read of " + text, reading(x, text), statements);
        return x;
    }

    static int reading(AtomTables x, String text) {
        for (char letter : text.toCharArray()) x.feed(letter);
        return x.read();
    }

    static String spelling(AtomTables x) {
        StringBuilder text = new StringBuilder();
        int size = x.spelled(-1);
        for (int i = 0; i < size; i++) text.append((char) x.spelled(i));
        due("spelled behind the end", x.spelled(size), AtomTables.NONE);
        return text.toString();
    }

    /** Nodes by their digits, the first with 0. */
    static void nodes(AtomTables x, int net, int... digits) {
        for (int i = 0; i < digits.length; i++) due("node(" + net + ", " + digits[i] + ")", x.node(net, digits[i]), i);
    }

    static void end(String name) {
        System.out.println(name + ": " + asked + " answers, " + wrong + " not as due");
        if (wrong != 0) System.exit(1);
    }
}
