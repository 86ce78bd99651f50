import java.lang.reflect.InvocationTargetException;
import java.lang.reflect.Method;
import java.util.Arrays;
import java.util.Comparator;

/**
 * What the boundary tests share. A test of a boundary is a static method p01.. to p44.., named after the
 * promise and what it says; all of a class are found by their names, so none can be forgotten.
 */
final class Bounds {
    static final int NONE = AtomTables.NONE, BAD = AtomTables.BAD, STATE = AtomTables.STATE;
    static final int FULL = AtomTables.FULL, NOT = AtomTables.NOT;
    static final int MISSING = AtomTables.MISSING, PLACE = AtomTables.PLACE, BELOW = AtomTables.BELOW;
    static final long VOID = AtomTables.VOID;
    static final int MIN = Integer.MIN_VALUE, MAX = Integer.MAX_VALUE;
    /** On either side of 0 .. 2, just beside it and far away: numbers of no network and of no list. */
    static final int[] OUTSIDE = {-1, 3, -2, 4, MIN, MAX};
    /** Before (1) and behind (2). */
    static final String ORDER = "atoms 3;pair 1 2;in 1 1 1";
    /** Beside (1) and across (2) on a ring of five. */
    static final String RING = "atoms 3;in 1 1 2;in 2 2 1";
    /** Two atoms beside 0 of which any three go together. */
    static final String LOOSE = "atoms 3;in 1 1 1;in 1 1 2;in 1 2 2;in 2 2 2";
    /** One atom beside 0, and any three nodes go together. */
    static final String CLIQUE = "atoms 2;in 1 1 1";
    /** An object is used for so many calls. */
    static final int CALLS = 512;

    /** A call, and what it answered. */
    interface Deed {
        long on(AtomTables x);
    }

    /** Calls that bring a new object into some state. */
    interface World {
        void on(AtomTables x);
    }

    private Bounds() {
    }

    /** Runs all tests of a class, and looks that each promise of its part has one. */
    static void run(Class<?> tests, int first, int last) throws IllegalAccessException {
        boolean[] has = new boolean[last + 1];
        Method[] all = tests.getDeclaredMethods();
        Arrays.sort(all, Comparator.comparing(Method::getName));
        for (Method test : all) {
            if (!test.getName().matches("p\\d\\d[A-Z]\\w*")) continue;
            int promise = Integer.parseInt(test.getName().substring(1, 3));
            Check.holds(test.getName() + " is of this part", promise >= first && promise <= last);
            if (promise <= last) has[promise] = true;
            Check.in(test.getName());
            try {
                test.invoke(null);
            } catch (InvocationTargetException thrown) {
                Check.holds("no call throws: " + thrown.getCause(), false);
            }
        }
        Check.in("");
        for (int promise = first; promise <= last; promise++) Check.holds("promise " + promise + " has a test", has[promise]);
        Check.end(tests.getSimpleName());
    }

    /** The call is refused so, and all that can be seen is behind it as it would be without it. */
    static void refused(String call, World world, Deed deed, long due) {
        AtomTables x = new AtomTables();
        world.on(x);
        Check.due(call, deed.on(x), due);
        AtomTables twin = new AtomTables();
        world.on(twin);
        Check.same("all behind " + call, new Sight(x).all(), new Sight(twin).all());
    }

    /** Two ways to the same state. */
    static void alike(String what, World one, World other) {
        AtomTables x = new AtomTables();
        one.on(x);
        AtomTables y = new AtomTables();
        other.on(y);
        Check.same(what, new Sight(x).all(), new Sight(y).all());
    }

    static void nodes(AtomTables x, int net, int... digits) {
        Check.nodes(x, net, digits);
    }

    /** Six nodes with 1 from each to each later one. */
    static void six(AtomTables x, int net) {
        Check.nodes(x, net, 0, 1, 11, 111, 1111, 11111);
    }

    static void feed(AtomTables x, String text) {
        for (char letter : text.toCharArray()) x.feed(letter);
    }

    static void list(AtomTables x, int list, long... longs) {
        Check.due("list", x.list(list, longs.length), 1);
        for (int i = 0; i < longs.length; i++) Check.due("put", x.put(list, i, longs[i]), 1);
    }

    /** Everything is there: an image unlike what is now, a board that was answered, lists, a tape. */
    static void rich(AtomTables x) {
        x.atoms(4);
        x.pair(1, 2);
        x.triangle(1, 1, 1, 1);
        x.triangle(3, 3, 3, 1);
        nodes(x, 0, 0, 1, 11);
        nodes(x, 2, 0, 3);
        Check.due("forbid", x.forbid(2), NOT);
        Check.due("image", x.image(), 4);
        Check.due("triangle", x.triangle(1, 3, 3, 1), 6);
        six(x, 1);
        x.relabel(2, 0, 1, 1);
        x.node(2, 12);
        Check.due("an unsound one", x.sound(2), 12);
        Check.holds("begin", x.begin(0) > 0);
        Check.due("an ask", x.ask(0), 21);
        Check.holds("answer", x.answer(222) > 0);
        x.later();
        list(x, 0, 1, 2, 1, 2, 1, 2, 1, 2, 1, 2, 1, Long.MIN_VALUE);
        x.list(1, 0);
        feed(x, "atoms 3;in 1 1 1");
    }

    static void fresh(AtomTables x) {
        Check.due("a new one", x.count(0), 1);
    }

    /** The rich one, but for its tape, which is full. */
    static void fullTape(AtomTables x) {
        rich(x);
        for (int more = x.count(2); more < 100; more++) x.feed('x');
        Check.due("a full tape", x.count(2), 100);
    }

    /** A board without asks. */
    static void quietBoard(AtomTables x) {
        x.atoms(2);
        nodes(x, 0, 0, 1);
        Check.due("no asks", x.begin(0), 0);
    }

    /** A board with six nodes and asks. */
    static void fullBoard(AtomTables x) {
        x.atoms(3);
        x.triangle(1, 1, 1, 1);
        x.triangle(1, 1, 2, 1);
        six(x, 0);
        // each to itself by 2 and 2, each two by 1 2 and 2 1
        Check.due("asks", x.begin(0), 6 + 15 * 2);
    }

    /** All that calls can see of an object; it is used up by that. */
    private static final class Sight {
        private final AtomTables x;
        private final StringBuilder seen = new StringBuilder();
        private int calls = 0;

        Sight(AtomTables x) {
            this.x = x;
        }

        String all() {
            sheet();
            lists();
            board();
            forbidden();
            see("undo", x.undo());
            sheet();
            forbidden();
            see("read", x.read());
            see("threes behind it", x.cycles(2));
            see("atoms behind it", x.count(0));
            // what a world does, and the refused call, come to less than 150
            Check.holds("an object's calls are enough for " + calls, calls <= CALLS - 150);
            return seen.toString();
        }

        private long see(String what, long answer) {
            calls++;
            seen.append(what).append(' ').append(answer).append('\n');
            return answer;
        }

        private void sheet() {
            for (int what = 0; what < 5; what++) see("count " + what, x.count(what));
            int n = x.count(0);
            for (int a = 0; a < n; a++) see("converse", x.converse(1 << a));
            for (int a = 1; a < n; a++) for (int b = 1; b < n; b++) see("composed", x.compose(1 << a, 1 << b));
            for (int net = 0; net < 3; net++) network(net);
        }

        private void network(int net) {
            int i = 0;
            while (see("node of " + net, x.label(net, i, i)) == 0) {
                for (int j = 0; j < i; j++) see("label", x.label(net, j, i));
                if (i > 0) see("back", x.label(net, i, 0));
                i++;
            }
        }

        private void lists() {
            for (int list = 0; list < 3; list++) {
                see("judge " + list, x.judge(list));
                for (int i = 0; i < 12; i++) see("get", x.get(list, i));
            }
        }

        private void board() {
            for (int what = 0; what < 3; what++) see("board " + what, x.board(what));
            int k = 0;
            while (see("ask", x.ask(k)) >= 0) k++;
            see("take", x.take(0));
            network(0);
        }

        /** A forbidden network of up to two nodes is told by where it occurs. */
        private void forbidden() {
            int n = x.count(0);
            while (x.drop(0) >= 0) calls++;
            see("no node", x.node(0, 0));
            see("a single one", x.begin(0));
            for (int a = 1; a < n; a++) {
                see("node", x.node(0, a));
                see("two of them", x.begin(0));
                see("drop", x.drop(0));
            }
            // another one comes, so that undo() must bring back what was forbidden
            see("forbid", x.forbid(0));
        }
    }
}
