import java.util.ArrayList;
import java.util.Arrays;
import java.util.List;
import java.util.Random;

/** Long runs of calls, each asked of AtomTables and of PlainTables; the answers must be alike. */
public final class OracleTest {
    private static final String[] WORDS = {"atoms", "pair", "in", "out", "atom", "atomss", "", "x", "inn", "ou"};

    private final Random dice;
    private final AtomTables real = new AtomTables();
    private final PlainTables plain = new PlainTables();
    private final List<String> calls = new ArrayList<>();
    private int plays = 0;
    /** Texts, and tables told anew, wipe all networks out: most runs go without them. */
    private final boolean texts;

    private OracleTest(long seed) {
        dice = new Random(seed);
        texts = seed % 4 == 0;
    }

    public static void main(String[] args) throws Exception {
        int runs = args.length > 0 ? Integer.parseInt(args[0]) : 400;
        int from = args.length > 1 ? Integer.parseInt(args[1]) : 1;
        for (int seed = from; seed < from + runs; seed++) {
            OracleTest test = new OracleTest(seed);
            String fault = test.run();
            if (fault != null) {
                System.out.println("OracleTest, seed " + seed + ": " + fault);
                System.out.println(String.join("\n", test.calls));
                System.exit(1);
            }
        }
        System.out.println("OracleTest: " + runs + " runs as due");
        if (args.length > 0) Tally.SEEN.forEach((name, kinds) -> System.out.println(name + " " + kinds));
    }

    private int upTo(int n) {
        return dice.nextInt(n + 1);
    }

    /** Mostly low .. high, now and then just beside it or far away. */
    private int around(int low, int high) {
        int throwOf = upTo(60);
        if (throwOf == 0) return low - 1;
        if (throwOf == 1) return high + 1;
        if (throwOf == 2) return dice.nextInt();
        if (throwOf == 3) return dice.nextBoolean() ? Integer.MIN_VALUE : Integer.MAX_VALUE;
        return high < low ? low : low + upTo(high - low);
    }

    private String run() throws Exception {
        String fault = start();
        while (fault == null && calls.size() < 500) fault = step();
        return fault;
    }

    /** Most runs begin with a table of some richness, so that networks are sound now and then. */
    private String start() throws Exception {
        String fault = call("atoms", dice.nextInt(5) == 0 ? 2 : 3 + upTo(1));
        int n = plain.count(0);
        if (fault == null && n > 2 && dice.nextBoolean()) fault = call("pair", 1 + upTo(n - 2), 1 + upTo(n - 2));
        return fault == null ? thicken() : fault;
    }

    private String thicken() throws Exception {
        String fault = null;
        int n = plain.count(0);
        int share = 1 + upTo(4);
        for (int a = 1; fault == null && a < n; a++)
            for (int b = 1; fault == null && b < n; b++)
                for (int c = 1; fault == null && c < n; c++)
                    if (dice.nextInt(5) < share && plain.isIn(a, b, c) == 0) fault = call("triangle", a, b, c, 1);
        return fault;
    }

    private String step() throws Exception {
        int n = plain.count(0);
        int r = (1 << n) - 1;
        switch (upTo(60)) {
            case 0: return texts || dice.nextInt(12) == 0 ? call("atoms", around(1, 4)) : null;
            case 1: return texts || dice.nextInt(12) == 0 ? call("pair", around(1, n - 1), around(1, n - 1)) : null;
            case 2: return call("converse", around(0, r));
            case 3: return call("triangle", around(1, n - 1), around(1, n - 1), around(1, n - 1), around(0, 1));
            case 4: return call("isIn", around(0, n - 1), around(0, n - 1), around(0, n - 1));
            case 5: return call("compose", around(0, r), around(0, r));
            case 6: return call("over", around(0, r), around(0, r), around(0, 1));
            case 7: return call("power", around(0, r), around(0, 1));
            case 8: return call("equivalence", around(-1, 3));
            case 9: return call("solved", around(0, r), around(0, r), around(0, 1), around(0, 2));
            case 10: return call("broken", around(0, 3));
            case 11: return call("cycles", around(0, 3));
            case 12: case 13: case 14: case 15: return someNode();
            case 16: return call("drop", around(0, 2));
            case 17: return someLabel("label");
            case 18: return dice.nextInt(3) == 0 ? someLabel("relabel") : null;
            case 19: return call("copy", around(0, 2), around(0, 2));
            case 20: return call("sound", around(0, 2));
            case 21: case 22: return someGap();
            case 23: case 24: case 25: return someFill();
            case 26: case 27: return call("occurs", around(0, 2), around(0, 2), around(-1, 6));
            case 28: return call("forbid", around(-1, 2));
            case 29: return play("won");
            case 30: return play("killer");
            case 31: return plays++ < 12 ? call("lasts", around(0, 2)) : null;
            case 32: case 33: return call("begin", around(0, 2));
            case 34: return call("ask", around(0, Math.max(0, plain.board(1) - 1)));
            case 35: case 36: case 37: return someAnswer();
            case 38: return call("later");
            case 39: return call("board", around(0, 2));
            case 40: return call("take", around(0, 2));
            case 41: return somePicture();
            case 42: return dice.nextInt(4) == 0 ? pictureTable() : null;
            case 43: return plays++ < 12 ? call("found", around(0, 2)) : null;
            case 44: return call("list", around(0, 2), around(-1, 12));
            case 45: return call("put", around(0, 2), around(0, 11), someLong(n));
            case 46: return call("get", around(0, 2), around(0, 11));
            case 47: return call("feed", around(32, 126));
            case 48: return dice.nextInt(4) == 0 ? call("wipe") : null;
            case 49: case 50: return texts ? someText() : null;
            case 51: return call("spelled", around(-1, plain.spelled(-1) - 1));
            case 52: return call("image");
            case 53: return dice.nextInt(3) == 0 ? call("undo") : null;
            case 54: return call("count", around(0, 4));
            case 55: return call("judge", around(0, 2));
            case 56: return dice.nextInt(6) == 0 ? thicken() : null;
            case 57: case 58: case 59: return soundNet();
            default: return call("count", 1);
        }
    }

    private String someLabel(String name) throws Exception {
        int net = around(0, 2);
        int last = Math.max(0, net < 0 || net > 2 ? 0 : sizeOf(net) - 1);
        int i = around(0, last);
        int j = around(0, last);
        return name.equals("label") ? call(name, net, i, j) : call(name, net, i, j, around(1, plain.count(0) - 1));
    }

    private String someGap() throws Exception {
        int net = around(0, 2);
        return call("gap", net, around(-1, Math.max(0, plain.gap(net, -1) - 1)));
    }

    /** The table of some ring, thrown, so that pictures are true now and then. */
    private String pictureTable() throws Exception {
        int n = plain.count(0);
        if (n < 2 || calls.size() > 420) return null;
        int m = n + upTo(13 - n);
        int[] ring = new int[m];
        for (int d = 1; d <= m / 2; d++) {
            int a = 1 + upTo(n - 2);
            int b = Integer.numberOfTrailingZeros(plain.converse(1 << a));
            if (2 * d == m && a != b) return null;
            ring[d] = a;
            ring[m - d] = b;
        }
        String fault = null;
        for (int a = 1; a < n; a++)
            for (int b = 1; b < n; b++)
                for (int c = 1; fault == null && c < n; c++) {
                    int is = 0;
                    for (int d = 1; d < m; d++)
                        for (int e = 0; e < m; e++)
                            if (ring[d] == c && ring[e] == a && ring[Math.floorMod(d - e, m)] == b) is = 1;
                    if (plain.isIn(a, b, c) != is) fault = call("triangle", a, b, c, is);
                }
        return fault == null ? call("found", upTo(2)) : fault;
    }

    private String play(String name) throws Exception {
        return plays++ < 12 ? call(name, around(0, 2), around(0, 2)) : null;
    }

    private int someDigits(int nodes) {
        int n = plain.count(0);
        int digits = 0;
        for (int i = 0; i < nodes; i++) digits = 10 * digits + around(1, n - 1);
        return digits;
    }

    private int sizeOf(int net) {
        int m = 0;
        while (plain.label(net, m, m) == 0) m++;
        return m;
    }

    private String someNode() throws Exception {
        int net = around(0, 2);
        return call("node", net, someDigits(net >= 0 && net <= 2 ? sizeOf(net) : 0));
    }

    /** Nodes that leave the network sound, as far as such are found. */
    private String soundNet() throws Exception {
        int net = upTo(2);
        String fault = null;
        int wanted = upTo(6);
        for (int tries = 0; fault == null && tries < 15 && sizeOf(net) < wanted && calls.size() < 480; tries++) {
            int before = sizeOf(net);
            fault = someNodeOf(net);
            if (fault == null && sizeOf(net) > before && plain.sound(net) != PlainTables.NOT) fault = call("drop", net);
        }
        return fault;
    }

    private String someNodeOf(int net) throws Exception {
        return call("node", net, someDigits(sizeOf(net)));
    }

    private String someFill() throws Exception {
        int net = upTo(2);
        int many = plain.gap(net, -1);
        int gap = many > 0 && dice.nextInt(8) > 0 ? plain.gap(net, upTo(many - 1)) : around(0, 5533);
        return call("fills", net, gap, around(-1, 4));
    }

    /** Half of the answers fill the ask, if anything does; the others are thrown. */
    private String someAnswer() throws Exception {
        int nodes = plain.board(0);
        if (nodes < 1 || nodes > 5 || dice.nextInt(4) == 0) return call("answer", someDigits(Math.max(nodes, 0)));
        List<Integer> ways = plain.waysToAnswer();
        if (ways.isEmpty()) return call("answer", someDigits(nodes));
        return call("answer", ways.get(upTo(ways.size() - 1)));
    }

    private long someLong(int n) {
        return dice.nextInt(12) == 0 ? dice.nextLong() : around(1, n - 1);
    }

    private String somePicture() throws Exception {
        int list = upTo(2);
        int size = 1 + upTo(11);
        int n = plain.count(0);
        if (n < 2) return null;
        String fault = call("list", list, size);
        long[] row = new long[size];
        for (int p = 0; p < size; p++) row[p] = 1 + upTo(n - 2);
        for (int p = 0; p < size / 2; p++) row[size - 1 - p] = Integer.numberOfTrailingZeros(plain.converse(1 << row[p]));
        if (dice.nextInt(5) == 0) row[upTo(size - 1)] = someLong(n);
        for (int p = 0; fault == null && p < size; p++) fault = call("put", list, p, row[p]);
        return fault == null ? call("judge", list) : fault;
    }

    private String someText() throws Exception {
        StringBuilder text = new StringBuilder();
        int statements = 1 + upTo(4);
        boolean wild = dice.nextInt(3) == 0;
        for (int s = 0; s < statements; s++) {
            if (s > 0) text.append(';');
            String word = WORDS[upTo(wild && dice.nextInt(4) == 0 ? WORDS.length - 1 : 3)];
            int figures = word.startsWith("a") ? 1 : word.startsWith("p") ? 2 : 3;
            text.append(word);
            for (int f = 0; f < figures; f++) text.append(' ').append(dice.nextInt(8) == 0 ? upTo(9) : 1 + upTo(2));
        }
        if (wild && dice.nextBoolean() && text.length() > 0) {
            int at = upTo(text.length() - 1);
            if (dice.nextBoolean()) text.deleteCharAt(at);
            else text.insert(at, (char) (32 + upTo(94)));
        }
        if (dice.nextInt(6) == 0) text.setLength(upTo(text.length()));
        String fault = null;
        for (int i = 0; fault == null && i < text.length(); i++) fault = call("feed", (int) text.charAt(i));
        return fault == null ? call("read") : fault;
    }

    private String call(String name, Object... args) throws Exception {
        Class<?>[] types = new Class<?>[args.length];
        for (int i = 0; i < args.length; i++) types[i] = args[i] instanceof Long ? long.class : int.class;
        Object want = PlainTables.class.getMethod(name, types).invoke(plain, args);
        Object got;
        try {
            got = AtomTables.class.getMethod(name, types).invoke(real, args);
        } catch (java.lang.reflect.InvocationTargetException thrown) {
            got = thrown.getCause();
        }
        calls.add(name + Arrays.toString(args) + " " + got);
        Tally.add(name, want);
        return want.equals(got) ? null : "due is " + want;
    }

    /** How often each call gave which kind of answer, so that a thin spot of the dice can be seen. */
    static final class Tally {
        static final java.util.TreeMap<String, java.util.TreeMap<String, Integer>> SEEN = new java.util.TreeMap<>();

        static void add(String name, Object answer) {
            long v = ((Number) answer).longValue();
            String kind = v >= 0 ? (v == 0 ? "0" : "+") : v <= -300 ? "-300.." : v <= -100 ? "-100.." : Long.toString(v);
            SEEN.computeIfAbsent(name, k -> new java.util.TreeMap<>()).merge(kind, 1, Integer::sum);
        }
    }
}
