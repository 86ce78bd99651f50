/** Counts answers that are not as due. */
final class Check {
    private static int wrong = 0;
    private static int asked = 0;

    private Check() {
    }

    static void due(String call, long got, long want) {
        asked++;
        if (got != want) {
            wrong++;
            System.out.println(call + " answered " + got + ", due is " + want);
        }
    }

    static void holds(String what, boolean is) {
        asked++;
        if (!is) {
            wrong++;
            System.out.println("it does not hold: " + what);
        }
    }

    /** A new object whose table is told by a text. */
    static AtomTables table(String text) {
        AtomTables x = new AtomTables();
        int statements = text.split(";").length;
        due("read of " + text, reading(x, text), statements);
        return x;
    }

    static int reading(AtomTables x, String text) {
        for (char letter : text.toCharArray()) x.feed(letter);
        return x.read();
    }

    static String spelling(AtomTables x) {
        StringBuilder text = new StringBuilder();
        int size = x.spelled(-1);
        for (int i = 0; i < size; i++) text.append((char) x.spelled(i));
        due("spelled behind the end", x.spelled(size), AtomTables.NONE);
        return text.toString();
    }

    /** Nodes by their digits, the first with 0. */
    static void nodes(AtomTables x, int net, int... digits) {
        for (int i = 0; i < digits.length; i++) due("node(" + net + ", " + digits[i] + ")", x.node(net, digits[i]), i);
    }

    static void end(String name) {
        System.out.println(name + ": " + asked + " answers, " + wrong + " not as due");
        if (wrong != 0) System.exit(1);
    }
}
