import java.util.ArrayList;
import java.util.Arrays;
import java.util.Collections;
import java.util.HashSet;
import java.util.List;
import java.util.Set;
import java.util.TreeSet;

/**
 * The document read word for word and without any thought of speed: what AtomTables must answer.
 * It shares no code and no idea with the class under test.
 */
public final class PlainTables {
    static final int NONE = -1, BAD = -2, STATE = -3, FULL = -4, NOT = -5, MISSING = -11, PLACE = -13, BELOW = -14;
    static final long VOID = Long.MIN_VALUE;

    static final class World {
        int n = 1;
        int[] conv = {0};
        Set<List<Integer>> in = new HashSet<>(Set.of(List.of(0, 0, 0)));
        /** A network: rows of a square of atoms. */
        List<List<List<Integer>>> nets = new ArrayList<>(List.of(List.of(), List.of(), List.of()));
        List<List<Integer>> forbidden = null;

        World twin() {
            World w = new World();
            w.n = n;
            w.conv = conv.clone();
            w.in = new HashSet<>(in);
            w.nets = new ArrayList<>(nets);
            w.forbidden = forbidden;
            return w;
        }
    }

    private World w = new World();
    private World image = null;
    private List<List<Integer>> board = null;
    private List<Integer> asks = new ArrayList<>();
    private int answered = 0;
    private final List<long[]> lists = new ArrayList<>(Arrays.asList(null, null, null));
    private String tape = "";

    // ---- atoms, threes

    private void told() {
        w.in.clear();
        for (int x = 0; x < w.n; x++) {
            w.in.add(List.of(0, x, x));
            w.in.add(List.of(x, 0, x));
            w.in.add(List.of(x, w.conv[x], 0));
        }
        w.nets = new ArrayList<>(List.of(List.of(), List.of(), List.of()));
        w.forbidden = null;
        board = null;
    }

    public int atoms(int n) {
        if (n < 1 || n > 4) return BAD;
        int was = w.n;
        w.n = n;
        w.conv = new int[n];
        for (int i = 0; i < n; i++) w.conv[i] = i;
        told();
        return was;
    }

    private boolean atom(int a) {
        return 0 <= a && a < w.n;
    }

    public int pair(int a, int b) {
        if (!atom(a) || !atom(b) || a == 0 || b == 0) return NONE;
        for (int x = 0; x < w.n; x++) {
            if (x != a && x != b && (w.conv[x] == a || w.conv[x] == b)) w.conv[x] = x;
        }
        w.conv[a] = b;
        w.conv[b] = a;
        told();
        int odd = 0;
        for (int x = 0; x < w.n; x++) if (w.conv[x] != x) odd++;
        return odd;
    }

    private Set<Integer> set(int x) {
        Set<Integer> s = new TreeSet<>();
        for (int i = 0; i < w.n; i++) if ((x & (1 << i)) != 0) s.add(i);
        return s;
    }

    private int bits(Set<Integer> s) {
        int x = 0;
        for (int i : s) x += 1 << i;
        return x;
    }

    private int all() {
        return (int) Math.pow(2, w.n);
    }

    private boolean relation(int x) {
        return 0 <= x && x < all();
    }

    public int converse(int x) {
        if (!relation(x)) return BAD;
        Set<Integer> s = new TreeSet<>();
        for (int a : set(x)) s.add(w.conv[a]);
        return bits(s);
    }

    private Set<List<Integer>> turns(int a, int b, int c) {
        int[] k = w.conv;
        return new HashSet<>(Arrays.asList(List.of(a, b, c), List.of(k[a], c, b), List.of(c, k[b], a),
            List.of(k[b], k[a], k[c]), List.of(b, k[c], k[a]), List.of(k[c], a, k[b])));
    }

    public int triangle(int a, int b, int c, int is) {
        if (!atom(a) || !atom(b) || !atom(c)) return NONE;
        if (is != 0 && is != 1) return BAD;
        if (a * b * c == 0) return STATE;
        int changed = 0;
        for (List<Integer> t : turns(a, b, c)) {
            if (is == 1 ? w.in.add(t) : w.in.remove(t)) changed++;
        }
        return changed;
    }

    private boolean in(int a, int b, int c) {
        return w.in.contains(List.of(a, b, c));
    }

    public int isIn(int a, int b, int c) {
        if (!atom(a) || !atom(b) || !atom(c)) return NONE;
        return in(a, b, c) ? 1 : 0;
    }

    public int compose(int x, int y) {
        if (!relation(x) || !relation(y)) return BAD;
        Set<Integer> s = new TreeSet<>();
        for (List<Integer> t : w.in) {
            if (set(x).contains(t.get(0)) && set(y).contains(t.get(1))) s.add(t.get(2));
        }
        return bits(s);
    }

    private boolean within(int x, int y) {
        return set(y).containsAll(set(x));
    }

    public int over(int x, int y, int side) {
        if (!relation(x) || !relation(y) || side < 0 || side > 1) return BAD;
        int best = 0;
        for (int z = 0; z < all(); z++) {
            int made = side == 0 ? compose(z, y) : compose(y, z);
            if (within(made, x) && set(z).size() > set(best).size()) best = z;
        }
        return best;
    }

    public int power(int x, int what) {
        if (!relation(x)) return BAD;
        if (what < 0 || what > 1) return NONE;
        List<Integer> powers = new ArrayList<>();
        int p = x;
        while (!powers.contains(p)) {
            powers.add(p);
            p = compose(p, x);
        }
        int tail = powers.indexOf(p);
        return what == 0 ? tail : powers.size() - tail;
    }

    private static int pick(List<Integer> ways, int k) {
        if (k == -1) return ways.size();
        return k < 0 || k >= ways.size() ? NONE : ways.get(k);
    }

    public int equivalence(int k) {
        List<Integer> found = new ArrayList<>();
        for (int x = 0; x < all(); x++) {
            if (set(x).contains(0) && converse(x) == x && within(compose(x, x), x)) found.add(x);
        }
        return pick(found, k);
    }

    public int solved(int y, int z, int side, int what) {
        if (!relation(y) || !relation(z) || side < 0 || side > 1) return BAD;
        if (what < 0 || what > 2) return NONE;
        List<Integer> xs = new ArrayList<>();
        Set<Integer> together = new TreeSet<>();
        for (int x = 0; x < all(); x++) {
            if ((side == 0 ? compose(x, y) : compose(y, x)) == z) {
                xs.add(x);
                together.addAll(set(x));
            }
        }
        if (what == 0) return xs.size();
        if (xs.isEmpty()) return NOT;
        return what == 1 ? xs.get(0) : bits(together);
    }

    public int broken(int what) {
        if (what < 0 || what > 3) return NONE;
        List<Integer> broken = new ArrayList<>();
        List<Integer> thin = new ArrayList<>();
        for (int a = 0; a < w.n; a++) {
            for (int b = 0; b < w.n; b++) {
                if (compose(1 << a, 1 << b) == 0) thin.add(10 * a + b);
                for (int c = 0; c < w.n; c++) {
                    int left = compose(compose(1 << a, 1 << b), 1 << c);
                    int right = compose(1 << a, compose(1 << b, 1 << c));
                    if (left != right) broken.add(100 * a + 10 * b + c);
                }
            }
        }
        List<Integer> asked = what < 2 ? broken : thin;
        if (what % 2 == 0) return asked.size();
        return asked.isEmpty() ? NOT : asked.get(0);
    }

    private Set<Set<List<Integer>>> allCycles() {
        Set<Set<List<Integer>>> cycles = new HashSet<>();
        for (int a = 1; a < w.n; a++)
            for (int b = 1; b < w.n; b++)
                for (int c = 1; c < w.n; c++) cycles.add(turns(a, b, c));
        return cycles;
    }

    public int cycles(int what) {
        if (what < 0 || what > 3) return NONE;
        if (what == 2) return w.in.size();
        if (what == 1) return allCycles().size();
        int many = 0;
        int great = 0;
        for (Set<List<Integer>> cycle : allCycles()) {
            if (w.in.containsAll(cycle)) {
                many++;
                great = Math.max(great, cycle.size());
            }
        }
        return what == 0 ? many : great;
    }

    // ---- networks

    private static boolean third(int i) {
        return i == 0 || i == 1 || i == 2;
    }

    /** The network with a node more; null, if digits do not tell one. */
    private List<List<Integer>> grown(List<List<Integer>> net, int digits) {
        int m = net.size();
        String text = m == 0 ? "0" : Integer.toString(digits);
        if (m == 0 ? digits != 0 : text.length() != m) return null;
        List<List<Integer>> big = new ArrayList<>();
        List<Integer> last = new ArrayList<>();
        for (int i = 0; i < m; i++) {
            int a = text.charAt(m - 1 - i) - '0';
            if (!atom(a) || a == 0) return null;
            List<Integer> row = new ArrayList<>(net.get(i));
            row.add(a);
            big.add(row);
            last.add(w.conv[a]);
        }
        last.add(0);
        big.add(last);
        return big;
    }

    public int node(int net, int digits) {
        if (!third(net)) return NONE;
        if (w.nets.get(net).size() == 6) return FULL;
        List<List<Integer>> big = grown(w.nets.get(net), digits);
        if (big == null) return BAD;
        w.nets.set(net, big);
        return big.size() - 1;
    }

    public int drop(int net) {
        if (!third(net)) return NONE;
        List<List<Integer>> old = w.nets.get(net);
        if (old.isEmpty()) return STATE;
        int m = old.size() - 1;
        List<List<Integer>> small = new ArrayList<>();
        for (int i = 0; i < m; i++) small.add(new ArrayList<>(old.get(i).subList(0, m)));
        w.nets.set(net, small);
        return m;
    }

    private boolean node(List<List<Integer>> net, int i) {
        return i >= 0 && i < net.size();
    }

    public int label(int net, int i, int j) {
        if (!third(net) || !node(w.nets.get(net), i) || !node(w.nets.get(net), j)) return NONE;
        return w.nets.get(net).get(i).get(j);
    }

    public int relabel(int net, int i, int j, int a) {
        int was = label(net, i, j);
        if (was == NONE || i == j || !atom(a) || a == 0) return NONE;
        List<List<Integer>> fresh = new ArrayList<>();
        for (List<Integer> row : w.nets.get(net)) fresh.add(new ArrayList<>(row));
        fresh.get(i).set(j, a);
        fresh.get(j).set(i, w.conv[a]);
        w.nets.set(net, fresh);
        return was;
    }

    public int copy(int net, int other) {
        if (!third(net) || !third(other)) return NONE;
        w.nets.set(other, w.nets.get(net));
        return w.nets.get(net).size();
    }

    private int unsound(List<List<Integer>> net) {
        int m = net.size();
        for (int i = 0; i < m; i++)
            for (int j = 0; j < m; j++)
                for (int k = 0; k < m; k++)
                    if (!in(net.get(i).get(j), net.get(j).get(k), net.get(i).get(k))) return 100 * i + 10 * j + k;
        return NOT;
    }

    public int sound(int net) {
        return third(net) ? unsound(w.nets.get(net)) : NONE;
    }

    private List<Integer> gaps(List<List<Integer>> net) {
        List<Integer> gaps = new ArrayList<>();
        for (int i = 0; i < net.size(); i++)
            for (int j = i; j < net.size(); j++)
                for (int a = 1; a < w.n; a++)
                    for (int b = 1; b < w.n; b++) {
                        boolean there = false;
                        for (int k = 0; k < net.size(); k++) {
                            there |= net.get(i).get(k) == a && net.get(k).get(j) == b;
                        }
                        if (in(a, b, net.get(i).get(j)) && !there) gaps.add(1000 * i + 100 * j + 10 * a + b);
                    }
        return gaps;
    }

    public int gap(int net, int k) {
        return third(net) ? pick(gaps(w.nets.get(net)), k) : NONE;
    }

    private boolean forbiddenIn(List<List<Integer>> net) {
        return w.forbidden != null && !w.forbidden.isEmpty() && !ways(w.forbidden, net).isEmpty();
    }

    private boolean isFill(List<List<Integer>> net, int gap, int digits) {
        if (!gaps(net).contains(gap)) return false;
        List<List<Integer>> big = grown(net, digits);
        if (big == null) return false;
        int i = gap / 1000;
        int j = gap / 100 % 10;
        int m = net.size();
        return big.get(i).get(m) == gap / 10 % 10 && big.get(m).get(j) == gap % 10
            && unsound(big) == NOT && !forbiddenIn(big);
    }

    private List<Integer> allFills(List<List<Integer>> net, int gap) {
        List<Integer> found = new ArrayList<>();
        for (int digits : allDigits(net.size())) if (isFill(net, gap, digits)) found.add(digits);
        return found;
    }

    private List<Integer> allDigits(int m) {
        List<Integer> made = new ArrayList<>(List.of(0));
        for (int p = 0; p < m; p++) {
            List<Integer> more = new ArrayList<>();
            for (int head : made) for (int a = 1; a < w.n; a++) more.add(10 * head + a);
            made = more;
        }
        Collections.sort(made);
        return made;
    }

    public int fills(int net, int gap, int k) {
        if (!third(net) || k < -1) return NONE;
        List<List<Integer>> place = w.nets.get(net);
        if (!gaps(place).contains(gap)) return BAD;
        if (unsound(place) != NOT) return STATE;
        if (place.size() == 6) return FULL;
        return pick(allFills(place, gap), k);
    }

    private List<Integer> ways(List<List<Integer>> small, List<List<Integer>> big) {
        List<Integer> found = new ArrayList<>();
        lay(small, big, new ArrayList<>(), found);
        Collections.sort(found);
        return found;
    }

    private void lay(List<List<Integer>> small, List<List<Integer>> big, List<Integer> laid, List<Integer> found) {
        int p = laid.size();
        if (p == small.size()) {
            int told = 0;
            for (int i = p - 1; i >= 0; i--) told = 10 * told + laid.get(i) + 1;
            found.add(told);
            return;
        }
        for (int x = 0; x < big.size(); x++) {
            boolean good = !laid.contains(x);
            for (int q = 0; good && q < p; q++) {
                good = small.get(p).get(q).equals(big.get(x).get(laid.get(q)));
                good &= small.get(q).get(p).equals(big.get(laid.get(q)).get(x));
            }
            if (good) {
                List<Integer> more = new ArrayList<>(laid);
                more.add(x);
                lay(small, big, more, found);
            }
        }
    }

    public int occurs(int net, int other, int k) {
        if (!third(net) || !third(other) || k < -1) return NONE;
        return pick(ways(w.nets.get(net), w.nets.get(other)), k);
    }

    public int forbid(int net) {
        if (net != -1 && !third(net)) return NONE;
        int was = w.forbidden == null ? NOT : w.forbidden.size();
        w.forbidden = net == -1 ? null : w.nets.get(net);
        return was;
    }

    // ---- the game

    private int refused(int net, int r) {
        if (!third(net)) return NONE;
        if (r < 0 || r > 2) return BAD;
        List<List<Integer>> place = w.nets.get(net);
        return unsound(place) != NOT || forbiddenIn(place) || place.size() > 3 ? STATE : 0;
    }

    private boolean answerable(List<List<Integer>> net, int gap, int r) {
        for (int digits : allFills(net, gap)) if (firstWin(grown(net, digits), r - 1) == NOT) return true;
        return false;
    }

    private int firstWin(List<List<Integer>> net, int r) {
        if (r == 0) return NOT;
        for (int gap : gaps(net)) if (!answerable(net, gap, r)) return gap;
        return NOT;
    }

    public int won(int net, int r) {
        int no = refused(net, r);
        return no != 0 ? no : firstWin(w.nets.get(net), r) == NOT ? 1 : 0;
    }

    public int killer(int net, int r) {
        int no = refused(net, r);
        return no != 0 ? no : firstWin(w.nets.get(net), r);
    }

    public int lasts(int net) {
        int no = refused(net, 0);
        if (no != 0) return no;
        for (int r = 2; r > 0; r--) if (won(net, r) == 1) return r;
        return 0;
    }

    public int begin(int net) {
        if (!third(net)) return NONE;
        List<List<Integer>> place = w.nets.get(net);
        if (unsound(place) != NOT || forbiddenIn(place)) return STATE;
        board = place;
        asks = gaps(place);
        answered = 0;
        return asks.size();
    }

    public int ask(int k) {
        if (board == null) return STATE;
        return k < 0 || k >= asks.size() ? NONE : asks.get(k);
    }

    public int answer(int digits) {
        if (board == null || asks.isEmpty()) return STATE;
        if (board.size() == 6) return FULL;
        if (!isFill(board, asks.get(0), digits)) return NOT;
        board = grown(board, digits);
        int last = board.size() - 1;
        List<Integer> gaps = gaps(board);
        asks.removeIf(g -> !gaps.contains(g));
        for (int g : gaps) if (g / 1000 == last || g / 100 % 10 == last) asks.add(g);
        answered++;
        return asks.size();
    }

    /** For the dice: what would answer the first ask. */
    List<Integer> waysToAnswer() {
        return board == null || asks.isEmpty() ? List.of() : allFills(board, asks.get(0));
    }

    public int later() {
        if (board == null || asks.isEmpty()) return STATE;
        Collections.rotate(asks, -1);
        return asks.size();
    }

    public int board(int what) {
        if (board == null) return STATE;
        return what == 0 ? board.size() : what == 1 ? asks.size() : what == 2 ? answered : NONE;
    }

    public int take(int net) {
        if (!third(net)) return NONE;
        if (board == null) return STATE;
        w.nets.set(net, board);
        return board.size();
    }

    // ---- pictures, lists

    private int judged(long[] list) {
        int m = list.length + 1;
        for (int d = 1; d < m; d++) {
            long v = list[d - 1];
            long end = list[m - d - 1];
            if (v < 1 || v >= w.n) return d - 1;
            if (end < 1 || end >= w.n || w.conv[(int) end] != v) return d - 1;
        }
        int[] ring = new int[m];
        Set<Integer> standing = new HashSet<>();
        for (int d = 1; d < m; d++) ring[d] = (int) list[d - 1];
        for (int a : ring) standing.add(a);
        if (standing.size() < w.n) return 200;
        for (int d = 0; d < m; d++)
            for (int a = 0; a < w.n; a++)
                for (int b = 0; b < w.n; b++) {
                    boolean there = false;
                    for (int e = 0; e < m; e++) there |= ring[e] == a && ring[Math.floorMod(d - e, m)] == b;
                    if (there != in(a, b, ring[d])) return 100 + d;
                }
        return NOT;
    }

    public int judge(int list) {
        if (!third(list)) return NONE;
        if (lists.get(list) == null) return MISSING;
        return lists.get(list).length == 0 ? BAD : judged(lists.get(list));
    }

    public int found(int list) {
        if (!third(list)) return NONE;
        for (int m = 2; m <= 13; m++) {
            long[] row = new long[m - 1];
            Arrays.fill(row, 1);
            while (w.n > 1) {
                if (judged(row) == NOT) {
                    lists.set(list, row);
                    return m;
                }
                int p = m - 2;
                while (p >= 0 && row[p] == w.n - 1) row[p--] = 1;
                if (p < 0) break;
                row[p]++;
            }
        }
        return NOT;
    }

    public int list(int list, int n) {
        if (!third(list)) return NONE;
        if (n > 12) return BAD;
        if (n < -1) return BELOW;
        lists.set(list, n == -1 ? null : new long[n]);
        return 1;
    }

    public int put(int list, int i, long v) {
        if (!third(list)) return NONE;
        if (lists.get(list) == null) return MISSING;
        if (i < 0 || i >= lists.get(list).length) return PLACE;
        lists.get(list)[i] = v;
        return 1;
    }

    public long get(int list, int i) {
        if (!third(list) || lists.get(list) == null || i < 0 || i >= lists.get(list).length) return VOID;
        return lists.get(list)[i];
    }

    // ---- texts, the image

    public int feed(int letter) {
        if (letter < 32 || letter > 126) return BAD;
        if (tape.length() == 100) return FULL;
        tape += (char) letter;
        return tape.length();
    }

    public int wipe() {
        int was = tape.length();
        tape = "";
        return was;
    }

    /** Statements are cut off the front by their pattern; where that fails, the fault is looked for. */
    public int read() {
        String text = tape;
        tape = "";
        List<String> statements = new ArrayList<>();
        String shape = "(atoms \\d|pair \\d \\d|(in|out) \\d \\d \\d)";
        if (!text.matches(shape + "(;" + shape + ")*")) return -100 - fault(text);
        statements.addAll(List.of(text.split(";")));
        for (int s = 0; s < statements.size(); s++) {
            String[] parts = statements.get(s).split(" ");
            int[] f = new int[3];
            for (int p = 1; p < parts.length; p++) f[p - 1] = Integer.parseInt(parts[p]);
            int result = switch (parts[0]) {
                case "atoms" -> atoms(f[0]);
                case "pair" -> pair(f[0], f[1]);
                case "in" -> triangle(f[0], f[1], f[2], 1);
                default -> triangle(f[0], f[1], f[2], 0);
            };
            if (result < 0) return -300 - s;
        }
        return statements.size();
    }

    private int fault(String text) {
        int at = 0;
        while (true) {
            String rest = text.substring(at);
            String word = rest.replaceAll("[^a-z](?s).*", "");
            String figures = switch (word) {
                case "atoms" -> " 0";
                case "pair" -> " 0 0";
                case "in", "out" -> " 0 0 0";
                default -> null;
            };
            if (figures == null) return at;
            at += word.length();
            for (char due : figures.toCharArray()) {
                if (at == text.length()) return at;
                char is = text.charAt(at);
                if (due == ' ' ? is != ' ' : !Character.isDigit(is)) return at;
                at++;
            }
            if (at == text.length()) throw new IllegalStateException(text);
            if (text.charAt(at) != ';') return at;
            at++;
        }
    }

    private String spelledText() {
        List<String> parts = new ArrayList<>();
        parts.add("atoms " + w.n);
        for (int a = 1; a < w.n; a++) if (w.conv[a] > a) parts.add("pair " + a + " " + w.conv[a]);
        Set<Integer> least = new TreeSet<>();
        for (Set<List<Integer>> cycle : allCycles()) {
            if (!w.in.containsAll(cycle)) continue;
            Set<Integer> codes = new TreeSet<>();
            for (List<Integer> t : cycle) codes.add(100 * t.get(0) + 10 * t.get(1) + t.get(2));
            least.add(codes.iterator().next());
        }
        for (int code : least) parts.add("in " + code / 100 + " " + code / 10 % 10 + " " + code % 10);
        return String.join(";", parts);
    }

    public int spelled(int i) {
        String text = spelledText();
        if (i == -1) return text.length();
        return i < 0 || i >= text.length() ? NONE : text.charAt(i);
    }

    public int image() {
        image = w.twin();
        return w.n;
    }

    public int undo() {
        if (image == null) return STATE;
        w = image.twin();
        board = null;
        return w.n;
    }

    public int count(int what) {
        return switch (what) {
            case 0 -> w.n;
            case 1 -> w.nets.get(0).size() + w.nets.get(1).size() + w.nets.get(2).size();
            case 2 -> tape.length();
            case 3 -> (int) lists.stream().filter(l -> l != null).count();
            case 4 -> w.forbidden == null ? 0 : w.forbidden.size();
            default -> NONE;
        };
    }
}
