/**
 * Relations made of a few atoms, networks over them, a game on the networks, pictures on a ring of
 * points, and tables as texts. No call makes an object: all rows are made once, with the object.
 */
public final class AtomTables {
    public static final int NONE = -1, BAD = -2, STATE = -3, FULL = -4, NOT = -5, MISSING = -11, PLACE = -13, BELOW = -14;
    public static final long VOID = Long.MIN_VALUE;

    private static final int MOST_ATOMS = 4;
    private static final int MOST_NODES = 6;
    private static final int NETS = 3;
    private static final int MOST_ROUNDS = 2;
    private static final int GAME_NODES = 3;
    private static final int LISTS = 3;
    private static final int LIST_PLACES = 12;
    private static final int TAPE_BYTES = 100;
    /** The gaps of six nodes: 6 * 3 from a node to itself, 15 * 9 between two. */
    private static final int MOST_ASKS = 153;
    /** Far more settings than six wheels are ever turned through. */
    private static final int MANY = 1000000;

    private final Sheet now = new Sheet();
    private final Sheet kept = new Sheet();
    private boolean taken = false;
    private final Patterns patterns = new Patterns(now);
    private final Filler filler = new Filler(now, patterns);
    private final Game game = new Game(now, patterns);
    private final Board desk = new Board(now.table);
    private final Pictures pictures = new Pictures(now.table);
    /** How many longs each list holds; -1: it is missing. */
    private final int[] sizes = new int[LISTS];
    /** The longs of list 0, then of list 1, .. */
    private final long[] longs = new long[LISTS * LIST_PLACES];
    private final Tape tape = new Tape();
    private final Tape spelling = new Tape();

    public AtomTables() {
        for (int list = 0; list < LISTS; list++) {
            sizes[list] = -1;
        }
    }

    // ---- atoms, threes

    public int atoms(int n) {
        if (n < 1 || n > MOST_ATOMS) {
            return BAD;
        }
        int before = now.table.size;
        now.table.restart(n);
        forgetNetworks();
        return before;
    }

    public int pair(int a, int b) {
        if (!isAtomButZero(a) || !isAtomButZero(b)) {
            return NONE;
        }
        now.table.couple(a, b);
        forgetNetworks();
        return now.table.coupled();
    }

    public int converse(int x) {
        return isRelation(x) ? now.table.mirrored(x) : BAD;
    }

    public int triangle(int a, int b, int c, int is) {
        if (!isAtom(a) || !isAtom(b) || !isAtom(c)) {
            return NONE;
        }
        if (is != 0 && is != 1) {
            return BAD;
        }
        if (a == 0 || b == 0 || c == 0) {
            return STATE;
        }
        return now.table.mark(a, b, c, is == 1);
    }

    public int isIn(int a, int b, int c) {
        if (!isAtom(a) || !isAtom(b) || !isAtom(c)) {
            return NONE;
        }
        return now.table.has(a, b, c) ? 1 : 0;
    }

    public int compose(int x, int y) {
        if (!isRelation(x) || !isRelation(y)) {
            return BAD;
        }
        return now.table.product(x, y);
    }

    public int over(int x, int y, int side) {
        if (!isRelation(x) || !isRelation(y) || !isSide(side)) {
            return BAD;
        }
        return now.table.residual(x, y, side);
    }

    public int power(int x, int what) {
        if (!isRelation(x)) {
            return BAD;
        }
        if (what != 0 && what != 1) {
            return NONE;
        }
        return now.table.powers(x, what == 0);
    }

    public int equivalence(int k) {
        if (k < -1) {
            return NONE;
        }
        int seen = 0;
        for (int x = 0; x < now.table.relations(); x++) {
            if (now.table.isEquivalence(x)) {
                if (seen == k) {
                    return x;
                }
                seen++;
            }
        }
        return k == -1 ? seen : NONE;
    }

    public int solved(int y, int z, int side, int what) {
        if (!isRelation(y) || !isRelation(z) || !isSide(side)) {
            return BAD;
        }
        if (what < 0 || what > 2) {
            return NONE;
        }
        return now.table.solutions(y, z, side, what);
    }

    public int broken(int what) {
        if (what < 0 || what > 3) {
            return NONE;
        }
        return what < 2 ? now.table.unbalanced(what == 0) : now.table.thin(what == 2);
    }

    public int cycles(int what) {
        if (what < 0 || what > 3) {
            return NONE;
        }
        return what == 2 ? Long.bitCount(now.table.threes) : now.table.cycleFacts(what);
    }

    // ---- networks

    public int node(int net, int digits) {
        if (!isNet(net)) {
            return NONE;
        }
        Net place = now.nets[net];
        if (place.size >= MOST_NODES) {
            return FULL;
        }
        if (!filler.spread(digits, place.size)) {
            return BAD;
        }
        place.grow(filler.row, now.table);
        return place.size - 1;
    }

    public int drop(int net) {
        if (!isNet(net)) {
            return NONE;
        }
        Net place = now.nets[net];
        if (place.size == 0) {
            return STATE;
        }
        place.size--;
        return place.size;
    }

    public int label(int net, int i, int j) {
        if (!isNode(net, i) || !isNode(net, j)) {
            return NONE;
        }
        return now.nets[net].at(i, j);
    }

    public int relabel(int net, int i, int j, int a) {
        if (!isNode(net, i) || !isNode(net, j) || i == j || !isAtomButZero(a)) {
            return NONE;
        }
        int before = now.nets[net].at(i, j);
        now.nets[net].link(i, j, a, now.table);
        return before;
    }

    public int copy(int net, int other) {
        if (!isNet(net) || !isNet(other)) {
            return NONE;
        }
        now.nets[other].become(now.nets[net]);
        return now.nets[other].size;
    }

    public int sound(int net) {
        return isNet(net) ? now.nets[net].unsound(now.table) : NONE;
    }

    public int gap(int net, int k) {
        if (!isNet(net) || k < -1) {
            return NONE;
        }
        return now.nets[net].gapAt(now.table, k);
    }

    public int fills(int net, int gap, int k) {
        if (!isNet(net) || k < -1) {
            return NONE;
        }
        Net place = now.nets[net];
        if (!place.lacks(now.table, gap)) {
            return BAD;
        }
        if (place.unsound(now.table) != NOT) {
            return STATE;
        }
        if (place.size >= MOST_NODES) {
            return FULL;
        }
        return filler.way(place, gap, k);
    }

    public int occurs(int net, int other, int k) {
        if (!isNet(net) || !isNet(other) || k < -1) {
            return NONE;
        }
        return patterns.way(now.nets[net], now.nets[other], k);
    }

    public int forbid(int net) {
        if (net != -1 && !isNet(net)) {
            return NONE;
        }
        int before = now.bars ? now.barred.size : NOT;
        now.bars = net != -1;
        if (now.bars) {
            now.barred.become(now.nets[net]);
        }
        return before;
    }

    // ---- the game

    public int won(int net, int r) {
        int refusal = gameRefusal(net, r);
        if (refusal != 0) {
            return refusal;
        }
        return game.isWon(now.nets[net], r) ? 1 : 0;
    }

    public int killer(int net, int r) {
        int refusal = gameRefusal(net, r);
        if (refusal != 0) {
            return refusal;
        }
        return game.isWon(now.nets[net], r) ? NOT : game.firstLeft(r);
    }

    public int lasts(int net) {
        int refusal = gameRefusal(net, 0);
        if (refusal != 0) {
            return refusal;
        }
        int rounds = 0;
        while (rounds < MOST_ROUNDS && game.isWon(now.nets[net], rounds + 1)) {
            rounds++;
        }
        return rounds;
    }

    public int begin(int net) {
        if (!isNet(net)) {
            return NONE;
        }
        if (!isPlayable(now.nets[net])) {
            return STATE;
        }
        desk.lay(now.nets[net]);
        return desk.asked;
    }

    public int ask(int k) {
        if (!desk.stands) {
            return STATE;
        }
        return k < 0 || k >= desk.asked ? NONE : desk.asks[k];
    }

    public int answer(int digits) {
        if (!desk.stands || desk.asked == 0) {
            return STATE;
        }
        if (desk.net.size >= MOST_NODES) {
            return FULL;
        }
        if (!filler.isFilledBy(desk.net, desk.asks[0], digits)) {
            return NOT;
        }
        desk.extend(filler.row);
        return desk.asked;
    }

    public int later() {
        if (!desk.stands || desk.asked == 0) {
            return STATE;
        }
        desk.rotate();
        return desk.asked;
    }

    public int board(int what) {
        if (!desk.stands) {
            return STATE;
        }
        switch (what) {
            case 0:
                return desk.net.size;
            case 1:
                return desk.asked;
            case 2:
                return desk.answered;
            default:
                return NONE;
        }
    }

    public int take(int net) {
        if (!isNet(net)) {
            return NONE;
        }
        if (!desk.stands) {
            return STATE;
        }
        now.nets[net].become(desk.net);
        return desk.net.size;
    }

    // ---- pictures, lists

    public int judge(int list) {
        if (!isList(list)) {
            return NONE;
        }
        if (sizes[list] < 0) {
            return MISSING;
        }
        return sizes[list] == 0 ? BAD : pictures.verdict(longs, LIST_PLACES * list, sizes[list]);
    }

    public int found(int list) {
        if (!isList(list)) {
            return NONE;
        }
        int points = pictures.search();
        if (points == NOT) {
            return NOT;
        }
        sizes[list] = points - 1;
        for (int d = 1; d < points; d++) {
            longs[LIST_PLACES * list + d - 1] = pictures.steps[d];
        }
        return points;
    }

    public int list(int list, int n) {
        if (!isList(list)) {
            return NONE;
        }
        if (n > LIST_PLACES) {
            return BAD;
        }
        if (n < -1) {
            return BELOW;
        }
        sizes[list] = n;
        for (int i = 0; i < n; i++) {
            longs[LIST_PLACES * list + i] = 0L;
        }
        return 1;
    }

    public int put(int list, int i, long v) {
        if (!isList(list)) {
            return NONE;
        }
        if (sizes[list] < 0) {
            return MISSING;
        }
        if (i < 0 || i >= sizes[list]) {
            return PLACE;
        }
        longs[LIST_PLACES * list + i] = v;
        return 1;
    }

    public long get(int list, int i) {
        if (!isList(list) || i < 0 || i >= sizes[list]) {
            return VOID;
        }
        return longs[LIST_PLACES * list + i];
    }

    // ---- texts, the image

    public int feed(int letter) {
        if (letter < 32 || letter > 126) {
            return BAD;
        }
        if (tape.size >= TAPE_BYTES) {
            return FULL;
        }
        tape.append(letter);
        return tape.size;
    }

    public int wipe() {
        int before = tape.size;
        tape.size = 0;
        return before;
    }

    public int read() {
        int fault = tape.faultPlace();
        int result = fault == NOT ? perform() : -100 - fault;
        tape.size = 0;
        return result;
    }

    public int spelled(int i) {
        if (i < -1) {
            return NONE;
        }
        spelling.spell(now.table);
        if (i == -1) {
            return spelling.size;
        }
        return i < spelling.size ? spelling.bytes[i] : NONE;
    }

    public int image() {
        kept.become(now);
        taken = true;
        return now.table.size;
    }

    public int undo() {
        if (!taken) {
            return STATE;
        }
        now.become(kept);
        desk.stands = false;
        return now.table.size;
    }

    public int count(int what) {
        switch (what) {
            case 0:
                return now.table.size;
            case 1:
                return now.nets[0].size + now.nets[1].size + now.nets[2].size;
            case 2:
                return tape.size;
            case 3:
                return listsPresent();
            case 4:
                return now.bars ? now.barred.size : 0;
            default:
                return NONE;
        }
    }

    // ---- what the calls share

    private boolean isAtom(int a) {
        return a >= 0 && a < now.table.size;
    }

    private boolean isAtomButZero(int a) {
        return a >= 1 && a < now.table.size;
    }

    private boolean isRelation(int x) {
        return x >= 0 && x < now.table.relations();
    }

    private static boolean isSide(int side) {
        return side == 0 || side == 1;
    }

    private static boolean isNet(int net) {
        return net >= 0 && net < NETS;
    }

    private static boolean isList(int list) {
        return list >= 0 && list < LISTS;
    }

    private boolean isNode(int net, int i) {
        return isNet(net) && i >= 0 && i < now.nets[net].size;
    }

    private int listsPresent() {
        int present = 0;
        for (int list = 0; list < LISTS; list++) {
            if (sizes[list] >= 0) {
                present++;
            }
        }
        return present;
    }

    /** Labels and asks speak of the old atoms, so they can't outlive them. */
    private void forgetNetworks() {
        now.clearNets();
        desk.stands = false;
    }

    private boolean isPlayable(Net net) {
        return net.unsound(now.table) == NOT && !patterns.isBarred(net);
    }

    private int gameRefusal(int net, int r) {
        if (!isNet(net)) {
            return NONE;
        }
        if (r < 0 || r > MOST_ROUNDS) {
            return BAD;
        }
        if (now.nets[net].size > GAME_NODES || !isPlayable(now.nets[net])) {
            return STATE;
        }
        return 0;
    }

    /** Does the statements of a tape that has no fault. */
    private int perform() {
        int place = 0;
        int done = 0;
        for (int turn = 0; turn < TAPE_BYTES && place < tape.size; turn++) {
            int end = tape.wordEnd(place);
            int kind = tape.wordKind(place, end);
            if (statement(kind, end) < 0) {
                return -300 - done;
            }
            done++;
            place = end + 2 * tape.figuresOf(kind) + 1;
        }
        return done;
    }

    private int statement(int kind, int end) {
        int first = tape.figure(end + 1);
        int second = tape.figure(end + 3);
        int third = tape.figure(end + 5);
        switch (kind) {
            case Tape.ATOMS:
                return atoms(first);
            case Tape.PAIR:
                return pair(first, second);
            case Tape.IN:
                return triangle(first, second, third, 1);
            case Tape.OUT:
                return triangle(first, second, third, 0);
            default:
                return BAD;
        }
    }

    /** The atoms, their converses and the threes that are in. */
    static final class Table {
        int size = 1;
        final int[] mirror = new int[MOST_ATOMS];
        /** Bit 16 a + 4 b + c is set, if the three a b c is in: 64 bits hold four atoms' threes. */
        long threes = 0L;

        Table() {
            restart(1);
        }

        void restart(int n) {
            size = n;
            for (int a = 0; a < MOST_ATOMS; a++) {
                mirror[a] = a;
            }
            keepFixed();
        }

        void become(Table other) {
            size = other.size;
            for (int a = 0; a < MOST_ATOMS; a++) {
                mirror[a] = other.mirror[a];
            }
            threes = other.threes;
        }

        void couple(int a, int b) {
            free(a);
            free(b);
            mirror[a] = b;
            mirror[b] = a;
            keepFixed();
        }

        private void free(int a) {
            int partner = mirror[a];
            mirror[partner] = partner;
            mirror[a] = a;
        }

        private void keepFixed() {
            threes = 0L;
            for (int x = 0; x < size; x++) {
                threes |= bit(0, x, x) | bit(x, 0, x) | bit(x, mirror[x], 0);
            }
        }

        int coupled() {
            int found = 0;
            for (int a = 0; a < size; a++) {
                if (mirror[a] != a) {
                    found++;
                }
            }
            return found;
        }

        static long bit(int a, int b, int c) {
            return 1L << (16 * a + 4 * b + c);
        }

        boolean has(int a, int b, int c) {
            return (threes >>> (16 * a + 4 * b + c) & 1L) == 1L;
        }

        long turns(int a, int b, int c) {
            int x = mirror[a];
            int y = mirror[b];
            int z = mirror[c];
            return bit(a, b, c) | bit(x, c, b) | bit(c, y, a) | bit(y, x, z) | bit(b, z, x) | bit(z, a, y);
        }

        int mark(int a, int b, int c, boolean in) {
            long turns = turns(a, b, c);
            long before = threes;
            threes = in ? threes | turns : threes & ~turns;
            return Long.bitCount(before ^ threes);
        }

        int relations() {
            return 1 << size;
        }

        int mirrored(int x) {
            int result = 0;
            for (int a = 0; a < size; a++) {
                if ((x >> a & 1) == 1) {
                    result |= 1 << mirror[a];
                }
            }
            return result;
        }

        int product(int x, int y) {
            int result = 0;
            for (int a = 0; a < size; a++) {
                for (int b = 0; b < size; b++) {
                    if ((x >> a & 1) == 1 && (y >> b & 1) == 1) {
                        result |= (int) (threes >>> (16 * a + 4 * b)) & 15;
                    }
                }
            }
            return result;
        }

        private int sided(int x, int y, int side) {
            return side == 0 ? product(x, y) : product(y, x);
        }

        /** Products of unions are unions of products, so each atom is judged alone. */
        int residual(int x, int y, int side) {
            int result = 0;
            for (int a = 0; a < size; a++) {
                if ((sided(1 << a, y, side) & ~x) == 0) {
                    result |= 1 << a;
                }
            }
            return result;
        }

        /** The next power hangs on the last one alone, so the first that comes again closes a ring. */
        int powers(int x, boolean tail) {
            int met = 0;
            int ring = x;
            int unlike = 0;
            while (unlike < relations() && (met >> ring & 1) == 0) {
                met |= 1 << ring;
                ring = product(ring, x);
                unlike++;
            }
            int ahead = 0;
            int power = x;
            while (ahead < unlike && power != ring) {
                power = product(power, x);
                ahead++;
            }
            return tail ? ahead : unlike - ahead;
        }

        boolean isEquivalence(int x) {
            return (x & 1) == 1 && mirrored(x) == x && (product(x, x) & ~x) == 0;
        }

        int solutions(int y, int z, int side, int what) {
            int found = 0;
            int least = NOT;
            int all = 0;
            for (int x = 0; x < relations(); x++) {
                if (sided(x, y, side) == z) {
                    least = found == 0 ? x : least;
                    found++;
                    all |= x;
                }
            }
            if (what == 0) {
                return found;
            }
            return what == 1 || found == 0 ? least : all;
        }

        private boolean isUnbalanced(int a, int b, int c) {
            int left = product(product(1 << a, 1 << b), 1 << c);
            return left != product(1 << a, product(1 << b, 1 << c));
        }

        /** How many threes are broken, or the first of them. */
        int unbalanced(boolean counted) {
            int found = 0;
            for (int a = 0; a < size; a++) {
                for (int b = 0; b < size; b++) {
                    for (int c = 0; c < size; c++) {
                        if (isUnbalanced(a, b, c)) {
                            if (!counted) {
                                return 100 * a + 10 * b + c;
                            }
                            found++;
                        }
                    }
                }
            }
            return counted ? found : NOT;
        }

        /** How many pairs are thin, or the first of them. */
        int thin(boolean counted) {
            int found = 0;
            for (int a = 0; a < size; a++) {
                for (int b = 0; b < size; b++) {
                    if (product(1 << a, 1 << b) == 0) {
                        if (!counted) {
                            return 10 * a + b;
                        }
                        found++;
                    }
                }
            }
            return counted ? found : NOT;
        }

        /** A cycle is counted, and spelled, at the least of its threes. */
        boolean isLeastTurn(int a, int b, int c) {
            long turns = turns(a, b, c);
            return (turns & -turns) == bit(a, b, c);
        }

        /** Cycles that are in (what 0), that can be (1), the size of the greatest that is in (3). */
        int cycleFacts(int what) {
            int inside = 0;
            int possible = 0;
            int greatest = 0;
            for (int a = 1; a < size; a++) {
                for (int b = 1; b < size; b++) {
                    for (int c = 1; c < size; c++) {
                        if (isLeastTurn(a, b, c)) {
                            possible++;
                            if (has(a, b, c)) {
                                inside++;
                                greatest = Math.max(greatest, Long.bitCount(turns(a, b, c)));
                            }
                        }
                    }
                }
            }
            if (what == 0) {
                return inside;
            }
            return what == 1 ? possible : greatest;
        }

        /** The pairs a, b (bit 4 a + b) for which a b c is in. */
        int pairsInto(int c) {
            int pairs = 0;
            for (int a = 0; a < size; a++) {
                for (int b = 0; b < size; b++) {
                    if (has(a, b, c)) {
                        pairs |= 1 << (4 * a + b);
                    }
                }
            }
            return pairs;
        }
    }

    /** Nodes with an atom from each to each; from a node to itself 0 stands, and is never written over. */
    static final class Net {
        int size = 0;
        final int[] labels = new int[MOST_NODES * MOST_NODES];

        Net() {
        }

        int at(int i, int j) {
            return labels[MOST_NODES * i + j];
        }

        void link(int i, int j, int a, Table table) {
            labels[MOST_NODES * i + j] = a;
            labels[MOST_NODES * j + i] = table.mirror[a];
        }

        void become(Net other) {
            size = other.size;
            for (int i = 0; i < labels.length; i++) {
                labels[i] = other.labels[i];
            }
        }

        /** A node more; the row tells the atoms from the old nodes to it. */
        void grow(int[] row, Table table) {
            for (int i = 0; i < size; i++) {
                link(i, size, row[i], table);
            }
            size++;
        }

        /** All turns of a three are in together, so rising nodes are enough, and unlike ones. */
        int unsound(Table table) {
            for (int i = 0; i < size; i++) {
                for (int j = i + 1; j < size; j++) {
                    for (int k = j + 1; k < size; k++) {
                        if (!table.has(at(i, j), at(j, k), at(i, k))) {
                            return 100 * i + 10 * j + k;
                        }
                    }
                }
            }
            return NOT;
        }

        /** The gaps from i to j: bit 4 a + b for a, b. */
        int open(Table table, int i, int j) {
            int wanted = 0;
            int c = at(i, j);
            for (int a = 1; a < table.size; a++) {
                for (int b = 1; b < table.size; b++) {
                    if (table.has(a, b, c)) {
                        wanted |= 1 << (4 * a + b);
                    }
                }
            }
            for (int k = 0; k < size; k++) {
                wanted &= ~(1 << (4 * at(i, k) + at(k, j)));
            }
            return wanted;
        }

        static int gapNumber(int i, int j, int pair) {
            return 1000 * i + 100 * j + 10 * (pair >> 2) + (pair & 3);
        }

        /** The k-th gap, or how many there are (k -1). */
        int gapAt(Table table, int k) {
            int seen = 0;
            for (int i = 0; i < size; i++) {
                for (int j = i; j < size; j++) {
                    int open = open(table, i, j);
                    int more = Integer.bitCount(open);
                    if (k >= seen && k < seen + more) {
                        return gapNumber(i, j, placeOf(open, k - seen));
                    }
                    seen += more;
                }
            }
            return k == -1 ? seen : NONE;
        }

        /** The place of the k-th bit that is set, of the sixteen lowest. */
        static int placeOf(int bits, int k) {
            int seen = 0;
            for (int place = 0; place < 16; place++) {
                if ((bits >> place & 1) == 1) {
                    if (seen == k) {
                        return place;
                    }
                    seen++;
                }
            }
            return 0;
        }

        boolean lacks(Table table, int gap) {
            int i = gap / 1000;
            int j = gap / 100 % 10;
            int a = gap / 10 % 10;
            int b = gap % 10;
            if (gap < 0 || i > j || j >= size || a >= table.size || b >= table.size) {
                return false;
            }
            return (open(table, i, j) >> (4 * a + b) & 1) == 1;
        }
    }

    /** All that an image holds. */
    static final class Sheet {
        final Table table = new Table();
        final Net[] nets = new Net[NETS];
        final Net barred = new Net();
        boolean bars = false;

        Sheet() {
            for (int net = 0; net < NETS; net++) {
                nets[net] = new Net();
            }
        }

        void clearNets() {
            for (int net = 0; net < NETS; net++) {
                nets[net].size = 0;
            }
            bars = false;
        }

        void become(Sheet other) {
            table.become(other.table);
            for (int net = 0; net < NETS; net++) {
                nets[net].become(other.nets[net]);
            }
            barred.become(other.barred);
            bars = other.bars;
        }
    }

    /** Up to six wheels, the last the highest, turned through the settings that do not clash, rising. */
    abstract static class Wheels {
        int size = 0;
        final int[] at = new int[MOST_NODES];
        private final int[] low = new int[MOST_NODES];
        private final int[] high = new int[MOST_NODES];

        Wheels() {
        }

        /** The highest wheel, from a place down, whose setting does not go with those above it; -1: all do. */
        abstract int clash(int from);

        void span(int wheels, int lowest, int highest) {
            size = wheels;
            for (int p = 0; p < size; p++) {
                low[p] = lowest;
                high[p] = highest;
            }
        }

        void hold(int p, int setting) {
            low[p] = setting;
            high[p] = setting;
        }

        /** The least setting of all; false: there is none. */
        boolean first() {
            boolean can = true;
            for (int p = 0; p < size; p++) {
                at[p] = low[p];
                can = can && low[p] <= high[p];
            }
            return can && settle(size - 1);
        }

        boolean next() {
            int risen = turn(0);
            return risen < size && settle(risen);
        }

        /** Below a wheel that clashes nothing need be tried, above one that rose all goes still. */
        private boolean settle(int from) {
            int risen = from;
            for (int turn = 0; turn < MANY && risen < size; turn++) {
                int p = clash(risen);
                if (p < 0) {
                    return true;
                }
                risen = turn(p);
            }
            return false;
        }

        /** The next setting that is another one at place p or above it: which wheel rose; size: none can. */
        private int turn(int p) {
            int risen = p;
            while (risen < size && at[risen] >= high[risen]) {
                risen++;
            }
            if (risen < size) {
                at[risen]++;
                for (int q = 0; q < risen; q++) {
                    at[q] = low[q];
                }
            }
            return risen;
        }

        /** The settings as digits, each with so much more. */
        int digits(int more) {
            int result = 0;
            for (int p = size - 1; p >= 0; p--) {
                result = 10 * result + at[p] + more;
            }
            return result;
        }
    }

    /** The ways in which one network lies in another: wheel p tells where node p lies. */
    static final class Patterns extends Wheels {
        private final Sheet sheet;
        private Net small;
        private Net big;

        Patterns(Sheet sheet) {
            this.sheet = sheet;
            this.small = sheet.barred;
            this.big = sheet.barred;
        }

        /** The k-th way, or how many there are (k -1). */
        int way(Net pattern, Net other, int k) {
            look(pattern, other);
            int seen = 0;
            boolean more = first();
            for (int turn = 0; turn < MANY && more; turn++) {
                if (seen == k) {
                    return digits(1);
                }
                seen++;
                more = next();
            }
            return k == -1 ? seen : NONE;
        }

        boolean isBarred(Net net) {
            int nodes = sheet.bars ? sheet.barred.size : 0;
            if (nodes == 0 || nodes > net.size) {
                return false;
            }
            look(sheet.barred, net);
            return first();
        }

        private void look(Net pattern, Net other) {
            small = pattern;
            big = other;
            span(small.size, 0, big.size - 1);
        }

        int clash(int from) {
            for (int p = from; p >= 0; p--) {
                for (int q = p + 1; q < size; q++) {
                    int label = big.labels[MOST_NODES * at[p] + at[q]];
                    if (at[p] == at[q] || small.labels[MOST_NODES * p + q] != label) {
                        return p;
                    }
                }
            }
            return -1;
        }
    }

    /** The rows of atoms to a node more by which a sound network stays so: wheel p tells that from node p. */
    static final class Rows extends Wheels {
        private final Table table;
        private final Net net;

        Rows(Table table, Net net) {
            this.table = table;
            this.net = net;
        }

        void spanAll() {
            span(net.size, 1, table.size - 1);
        }

        int clash(int from) {
            for (int p = from; p >= 0; p--) {
                for (int q = p + 1; q < size; q++) {
                    if (!table.has(net.at(p, q), at[q], at[p])) {
                        return p;
                    }
                }
            }
            return -1;
        }
    }

    /** Fills gaps of networks. */
    static final class Filler {
        private final Sheet sheet;
        private final Patterns patterns;
        private final Net trial = new Net();
        private final Rows rows;
        /** The atoms that digits told last. */
        final int[] row = new int[MOST_NODES];

        Filler(Sheet sheet, Patterns patterns) {
            this.sheet = sheet;
            this.patterns = patterns;
            this.rows = new Rows(sheet.table, trial);
        }

        /** Whether digits tell an atom but 0 for so many nodes; these are in row then. */
        boolean spread(int digits, int nodes) {
            int rest = digits;
            for (int i = 0; i < nodes; i++) {
                row[i] = rest % 10;
                if (row[i] < 1 || row[i] >= sheet.table.size) {
                    return false;
                }
                rest /= 10;
            }
            return rest == 0;
        }

        /** The k-th way to fill a gap of a sound network, or how many there are (k -1). */
        int way(Net net, int gap, int k) {
            trial.become(net);
            rows.spanAll();
            rows.hold(gap / 1000, gap / 10 % 10);
            rows.hold(gap / 100 % 10, sheet.table.mirror[gap % 10]);
            int seen = 0;
            boolean more = rows.first();
            for (int turn = 0; turn < MANY && more; turn++) {
                if (isAllowed(rows.at)) {
                    if (seen == k) {
                        return rows.digits(0);
                    }
                    seen++;
                }
                more = rows.next();
            }
            return k == -1 ? seen : NONE;
        }

        private boolean isAllowed(int[] atoms) {
            trial.grow(atoms, sheet.table);
            boolean allowed = !patterns.isBarred(trial);
            trial.size--;
            return allowed;
        }

        /** Whether digits fill what may be a gap of a network that may be sound; row has them then. */
        boolean isFilledBy(Net net, int gap, int digits) {
            if (!net.lacks(sheet.table, gap) || !spread(digits, net.size)) {
                return false;
            }
            boolean asAsked = row[gap / 1000] == gap / 10 % 10;
            asAsked = asAsked && row[gap / 100 % 10] == sheet.table.mirror[gap % 10];
            trial.become(net);
            trial.grow(row, sheet.table);
            return asAsked && trial.unsound(sheet.table) == NOT && !patterns.isBarred(trial);
        }
    }

    /** The game played to its end. */
    static final class Game {
        private final Sheet sheet;
        private final Patterns patterns;
        private final Net stage = new Net();
        private final Rows[] rows = new Rows[MOST_ROUNDS];
        /** For rounds 1, 2: from i to j the gaps (bit 4 a + b) that no row met so far answers. */
        private final int[][] left = new int[MOST_ROUNDS][MOST_NODES * MOST_NODES];

        Game(Sheet sheet, Patterns patterns) {
            this.sheet = sheet;
            this.patterns = patterns;
            for (int r = 0; r < MOST_ROUNDS; r++) {
                rows[r] = new Rows(sheet.table, stage);
            }
        }

        boolean isWon(Net net, int rounds) {
            stage.become(net);
            return outlives(rounds);
        }

        /** One row answers many gaps: each row is tried once, and strikes all that it answers. */
        private boolean outlives(int rounds) {
            if (rounds < 1 || rounds > MOST_ROUNDS) {
                return true;
            }
            int[] gaps = left[rounds - 1];
            Rows tried = rows[rounds - 1];
            findGaps(gaps);
            tried.spanAll();
            boolean open = isOpen(gaps);
            boolean more = tried.first();
            for (int turn = 0; turn < MANY && more && open; turn++) {
                if (answers(gaps, tried.at) && stands(tried.at, rounds - 1)) {
                    strike(gaps, tried.at);
                    open = isOpen(gaps);
                }
                more = tried.next();
            }
            return !open;
        }

        private void findGaps(int[] gaps) {
            for (int i = 0; i < stage.size; i++) {
                for (int j = i; j < stage.size; j++) {
                    gaps[MOST_NODES * i + j] = stage.open(sheet.table, i, j);
                }
            }
        }

        private boolean isOpen(int[] gaps) {
            for (int i = 0; i < stage.size; i++) {
                for (int j = i; j < stage.size; j++) {
                    if (gaps[MOST_NODES * i + j] != 0) {
                        return true;
                    }
                }
            }
            return false;
        }

        private boolean answers(int[] gaps, int[] row) {
            int[] mirror = sheet.table.mirror;
            for (int i = 0; i < stage.size; i++) {
                for (int j = i; j < stage.size; j++) {
                    if ((gaps[MOST_NODES * i + j] >> (4 * row[i] + mirror[row[j]]) & 1) == 1) {
                        return true;
                    }
                }
            }
            return false;
        }

        private void strike(int[] gaps, int[] row) {
            int[] mirror = sheet.table.mirror;
            for (int i = 0; i < stage.size; i++) {
                for (int j = i; j < stage.size; j++) {
                    gaps[MOST_NODES * i + j] &= ~(1 << (4 * row[i] + mirror[row[j]]));
                }
            }
        }

        /** Whether the row may be put, and the rounds behind it are won. */
        private boolean stands(int[] row, int rounds) {
            stage.grow(row, sheet.table);
            boolean good = !patterns.isBarred(stage) && outlives(rounds);
            stage.size--;
            return good;
        }

        /** The first gap that nothing answered in the game just lost. */
        int firstLeft(int rounds) {
            if (rounds < 1 || rounds > MOST_ROUNDS) {
                return NOT;
            }
            for (int i = 0; i < stage.size; i++) {
                for (int j = i; j < stage.size; j++) {
                    int gaps = left[rounds - 1][MOST_NODES * i + j];
                    if (gaps != 0) {
                        return Net.gapNumber(i, j, Net.placeOf(gaps, 0));
                    }
                }
            }
            return NOT;
        }
    }

    /** The game by hand. */
    static final class Board {
        private final Table table;
        boolean stands = false;
        final Net net = new Net();
        final int[] asks = new int[MOST_ASKS];
        int asked = 0;
        int answered = 0;

        Board(Table table) {
            this.table = table;
        }

        void lay(Net start) {
            net.become(start);
            stands = true;
            asked = 0;
            answered = 0;
            for (int i = 0; i < net.size; i++) {
                for (int j = i; j < net.size; j++) {
                    append(i, j);
                }
            }
        }

        private void append(int i, int j) {
            int open = net.open(table, i, j);
            for (int pair = 0; pair < 16 && asked < MOST_ASKS; pair++) {
                if ((open >> pair & 1) == 1) {
                    asks[asked] = Net.gapNumber(i, j, pair);
                    asked++;
                }
            }
        }

        void extend(int[] row) {
            net.grow(row, table);
            answered++;
            dropClosed();
            int last = net.size - 1;
            for (int i = 0; i <= last; i++) {
                append(i, last);
            }
        }

        private void dropClosed() {
            int kept = 0;
            for (int k = 0; k < asked; k++) {
                if (net.lacks(table, asks[k])) {
                    asks[kept] = asks[k];
                    kept++;
                }
            }
            asked = kept;
        }

        void rotate() {
            int moved = asks[0];
            for (int k = 1; k < asked; k++) {
                asks[k - 1] = asks[k];
            }
            asks[asked - 1] = moved;
        }
    }

    /** Pictures on a ring of points. */
    static final class Pictures extends Wheels {
        private final Table table;
        private int points = 2;
        /** The atom of each step; step 0 has atom 0. */
        final int[] steps = new int[LIST_PLACES + 1];
        private final int[] due = new int[MOST_ATOMS];

        Pictures(Table table) {
            this.table = table;
        }

        /** Judges the longs that stand from a place on. */
        int verdict(long[] longs, int from, int many) {
            for (int p = 0; p < many; p++) {
                long atom = longs[from + p];
                if (atom < 1 || atom >= table.size) {
                    return p;
                }
                steps[p + 1] = (int) atom;
                if (longs[from + many - 1 - p] != table.mirror[steps[p + 1]]) {
                    return p;
                }
            }
            points = many + 1;
            if (!isFull()) {
                return 200;
            }
            readDue();
            int d = misfit();
            return d < 0 ? NOT : 100 + d;
        }

        /** Whether each atom stands on some step. */
        private boolean isFull() {
            int standing = 0;
            for (int d = 0; d < points; d++) {
                standing |= 1 << steps[d];
            }
            return standing == table.relations() - 1;
        }

        private void readDue() {
            for (int c = 0; c < table.size; c++) {
                due[c] = table.pairsInto(c);
            }
        }

        /** The least step that is not made of just the pairs that are due; -1: there is none. */
        private int misfit() {
            for (int d = 0; d < points; d++) {
                int seen = 0;
                for (int e = 0; e < points; e++) {
                    seen |= 1 << (4 * steps[e] + steps[e <= d ? d - e : d - e + points]);
                }
                if (seen != due[steps[d]]) {
                    return d;
                }
            }
            return -1;
        }

        /**
         * The least number of points with a true picture, whose steps are in steps then. The highest
         * wheel is step 1, wheel 0 the last step that hangs on no lesser one. Steps of a true picture are
         * added as its atoms are composed, so a table with a broken three has none.
         */
        int search() {
            if (table.unbalanced(false) != NOT) {
                return NOT;
            }
            readDue();
            for (int m = 2; m <= LIST_PLACES + 1; m++) {
                points = m;
                span(m / 2, 1, table.size - 1);
                boolean more = first();
                for (int turn = 0; turn < MANY && more; turn++) {
                    if (isFull() && misfit() < 0) {
                        return m;
                    }
                    more = next();
                }
            }
            return NOT;
        }

        /** Lays the steps, and their converses, while it goes. */
        int clash(int from) {
            for (int p = from; p >= 0; p--) {
                int d = size - p;
                int atom = at[p];
                if (2 * d == points && table.mirror[atom] != atom) {
                    return p;
                }
                steps[d] = atom;
                steps[points - d] = table.mirror[atom];
                if (!goes(d)) {
                    return p;
                }
            }
            return -1;
        }

        /** Whether step d may be made of any two of the steps laid so far: 1 .. d and their converses. */
        private boolean goes(int d) {
            for (int e = 1; e < points; e++) {
                int rest = e <= d ? d - e : d - e + points;
                boolean laid = (e <= d || e >= points - d) && (rest <= d || rest >= points - d);
                if (laid && !table.has(steps[e], steps[rest], steps[d])) {
                    return false;
                }
            }
            return true;
        }
    }

    /** The bytes of a text, how they are taken apart, and how a table is spelled with them. */
    static final class Tape {
        static final int ATOMS = 0, PAIR = 1, IN = 2, OUT = 3;

        int size = 0;
        /** Four atoms with ten cycles are spelled with 97 bytes; no table takes more. */
        final byte[] bytes = new byte[TAPE_BYTES];

        Tape() {
        }

        void append(int letter) {
            if (size < TAPE_BYTES) {
                bytes[size] = (byte) letter;
                size++;
            }
        }

        /** The place at which the text goes wrong; NOT: it does not. */
        int faultPlace() {
            int place = 0;
            for (int turn = 0; turn <= TAPE_BYTES; turn++) {
                int end = wordEnd(place);
                int kind = wordKind(place, end);
                if (kind < 0) {
                    return place;
                }
                int figures = figuresOf(kind);
                int good = goodFigures(end, figures);
                place = end + good;
                if (good < 2 * figures) {
                    return place;
                }
                if (place == size) {
                    return NOT;
                }
                if (bytes[place] != ';') {
                    return place;
                }
                place++;
            }
            return place;
        }

        /** How many of the bytes behind a word are blanks and figures in turn, as they should be. */
        private int goodFigures(int start, int figures) {
            int good = 0;
            while (good < 2 * figures && start + good < size && isDue(start + good, good % 2 == 1)) {
                good++;
            }
            return good;
        }

        private boolean isDue(int place, boolean figure) {
            byte letter = bytes[place];
            return figure ? letter >= '0' && letter <= '9' : letter == ' ';
        }

        int wordEnd(int start) {
            int end = start;
            while (end < size && bytes[end] >= 'a' && bytes[end] <= 'z') {
                end++;
            }
            return end;
        }

        /** Which word stands there; -1: none that is known. */
        int wordKind(int start, int end) {
            if (isWord(start, end, "atoms")) {
                return ATOMS;
            }
            if (isWord(start, end, "pair")) {
                return PAIR;
            }
            if (isWord(start, end, "in")) {
                return IN;
            }
            return isWord(start, end, "out") ? OUT : -1;
        }

        private boolean isWord(int start, int end, String word) {
            if (end - start != word.length()) {
                return false;
            }
            for (int i = 0; i < word.length(); i++) {
                if (bytes[start + i] != word.charAt(i)) {
                    return false;
                }
            }
            return true;
        }

        int figuresOf(int kind) {
            return kind == ATOMS ? 1 : kind == PAIR ? 2 : 3;
        }

        /** The figure at a place; -1, where the tape has ended. */
        int figure(int place) {
            return place < size ? bytes[place] - '0' : -1;
        }

        void spell(Table table) {
            size = 0;
            writeWord("atoms");
            writeFigure(table.size);
            for (int a = 1; a < table.size; a++) {
                if (a < table.mirror[a]) {
                    writeWord(";pair");
                    writeFigure(a);
                    writeFigure(table.mirror[a]);
                }
            }
            for (int a = 1; a < table.size; a++) {
                for (int b = 1; b < table.size; b++) {
                    for (int c = 1; c < table.size; c++) {
                        if (table.has(a, b, c) && table.isLeastTurn(a, b, c)) {
                            writeThree(a, b, c);
                        }
                    }
                }
            }
        }

        private void writeThree(int a, int b, int c) {
            writeWord(";in");
            writeFigure(a);
            writeFigure(b);
            writeFigure(c);
        }

        private void writeWord(String letters) {
            for (int i = 0; i < letters.length(); i++) {
                append(letters.charAt(i));
            }
        }

        private void writeFigure(int figure) {
            append(' ');
            append('0' + figure);
        }
    }
}
