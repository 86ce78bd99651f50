/** Boundary cases of promises 1 to 13: a new object, atoms, threes, relations. */
public final class AtomsBoundsTest {
    private static final int NONE = Bounds.NONE, BAD = Bounds.BAD, STATE = Bounds.STATE, NOT = Bounds.NOT;
    private static final int MISSING = Bounds.MISSING, MIN = Bounds.MIN, MAX = Bounds.MAX;
    /** The ring of four: 1 and 3 are steps to either side, 2 is across. */
    private static final String FOUR = "atoms 4;pair 1 3;in 1 1 2";
    /** 1;3 is 1, 3;1 is empty; 3;2 is 2, 2;3 is empty: what stands on which side matters. */
    private static final String SIDED = "atoms 4;pair 1 2;in 1 3 1";

    public static void main(String[] args) throws Exception {
        Bounds.run(AtomsBoundsTest.class, 1, 13);
    }

    /** An object with so many atoms, each its own converse. */
    private static AtomTables of(int n) {
        AtomTables x = new AtomTables();
        Check.due("atoms " + n, x.atoms(n), 1);
        return x;
    }

    /** Numbers that are no relation of so many atoms: just beside and far away. */
    private static int[] noRelation(int n) {
        return new int[] {-1, 1 << n, -2, (1 << n) + 1, MIN, MAX, MIN + 1, 1 << 30};
    }

    /** Numbers that are no atom of so many. */
    private static int[] noAtom(int n) {
        return new int[] {-1, n, -2, n + 1, n + 4, 16, 64, MIN, MAX};
    }

    // ---- 1: One ATOM; no NODES.

    static void p01OneAtom() {
        AtomTables x = new AtomTables();
        Check.due("atoms", x.count(0), 1);
        Check.due("0 is there", x.isIn(0, 0, 0), 1);
        Check.due("1 is not", x.isIn(1, 0, 1), NONE);
        Check.due("the greatest relation", x.converse(1), 1);
        Check.due("none above it", x.converse(2), BAD);
        Check.due("atoms() tells one", x.atoms(2), 1);
    }

    static void p01NoNodes() {
        AtomTables x = new AtomTables();
        Check.due("nodes", x.count(1), 0);
        for (int net = 0; net < 3; net++) {
            Check.due("no node 0", x.label(net, 0, 0), NONE);
            Check.due("nothing to drop", x.drop(net), STATE);
            Check.due("no gaps", x.gap(net, -1), 0);
        }
    }

    static void p01NothingElseAtFirst() {
        AtomTables x = new AtomTables();
        Check.due("FORBIDDEN: no nodes", x.count(4), 0);
        Check.due("FORBIDDEN is none", x.forbid(-1), NOT);
        Check.due("no BOARD", x.board(0), STATE);
        Check.due("no LISTS", x.count(3), 0);
        for (int list = 0; list < 3; list++) Check.due("missing", x.judge(list), MISSING);
        Check.due("THE TAPE is empty", x.wipe(), 0);
        Check.due("no IMAGE", x.undo(), STATE);
    }

    // ---- 2: There are n ATOMS (1 .. 4), each its own CONVERSE: how many there were. BAD.

    static void p02LeastAndMostAtoms() {
        AtomTables x = new AtomTables();
        int were = 1;
        for (int n : new int[] {1, 4, 1, 2, 3, 4, 4, 3, 2, 1, 1}) {
            Check.due("atoms " + n, x.atoms(n), were);
            Check.due("so many there are", x.count(0), n);
            Check.due("the last", x.isIn(n - 1, 0, n - 1), 1);
            Check.due("none behind it", x.isIn(n, 0, n), NONE);
            were = n;
        }
    }

    static void p02NoFewerNoMore() {
        for (int n : new int[] {0, 5, -1, 6, MIN, MAX}) {
            Bounds.refused("atoms " + n, Bounds::rich, x -> x.atoms(n), BAD);
            Bounds.refused("atoms " + n + " of a new one", Bounds::fresh, x -> x.atoms(n), BAD);
        }
    }

    static void p02EachItsOwnConverse() {
        AtomTables x = Check.table("atoms 4;pair 2 3");
        Check.due("atoms", x.atoms(4), 4);
        for (int a = 0; a < 4; a++) Check.due("its own", x.converse(1 << a), 1 << a);
        x.pair(2, 3);
        Check.due("fewer, without 3", x.atoms(3), 4);
        Check.due("2 is its own", x.converse(4), 4);
        Check.due("more again", x.atoms(4), 3);
        Check.due("3 is its own", x.converse(8), 8);
    }

    static void p02ThreesThatAreNotFixedGo() {
        AtomTables x = Check.table("atoms 4;in 1 1 1;in 3 3 3;in 1 2 3");
        Check.due("as many as there were", x.atoms(4), 4);
        Check.due("the FIXED ones are IN", x.cycles(2), 10);
        Check.due("no other", x.cycles(0), 0);
        x.triangle(3, 3, 3, 1);
        x.atoms(3);
        x.atoms(4);
        Check.due("nothing of old comes back", x.isIn(3, 3, 3), 0);
    }

    static void p02NetworksForbiddenAndBoardGo() {
        AtomTables x = new AtomTables();
        Bounds.rich(x);
        Check.due("told as it was", x.atoms(4), 4);
        for (int net = 0; net < 3; net++) Check.due("no node", x.drop(net), STATE);
        Check.due("no FORBIDDEN", x.forbid(-1), NOT);
        Check.due("no BOARD", x.board(1), STATE);
    }

    static void p02ListsTapeAndImageStay() {
        AtomTables x = new AtomTables();
        Bounds.rich(x);
        x.atoms(1);
        Check.due("LISTS", x.count(3), 2);
        Check.due("a long", x.get(0, 10), 1);
        Check.due("THE TAPE", x.count(2), 16);
        Check.due("THE IMAGE", x.undo(), 4);
        Check.due("with its nodes", x.count(1), 5);
    }

    // ---- 3: Two ATOMS are each other's CONVERSE (one and the same: its own) .. NONE: not there, or 0.

    static void p03OfOneAtomThereIsNone() {
        for (int[] p : new int[][] {{0, 0}, {1, 1}, {0, 1}, {1, 0}}) {
            Bounds.refused("pair of one atom", Bounds::fresh, x -> x.pair(p[0], p[1]), NONE);
        }
    }

    static void p03LeastAndGreatestAtom() {
        for (int n = 2; n <= 4; n++) {
            AtomTables x = of(n);
            Check.due("the least with itself", x.pair(1, 1), 0);
            Check.due("the greatest with itself", x.pair(n - 1, n - 1), 0);
            Check.due("both", x.pair(1, n - 1), n == 2 ? 0 : 2);
            Check.due("both, the other way", x.pair(n - 1, 1), n == 2 ? 0 : 2);
            Check.due("one more", x.pair(1, n), NONE);
            Check.due("one more, ahead", x.pair(n, 1), NONE);
            Check.due("one more, twice", x.pair(n, n), NONE);
            Check.due("0 behind", x.pair(n - 1, 0), NONE);
            Check.due("0 ahead", x.pair(0, n - 1), NONE);
        }
    }

    static void p03RefusedNothingChanges() {
        for (int bad : new int[] {0, 4, -1, 5, MIN, MAX}) {
            Bounds.refused("pair " + bad + " 1", Bounds::rich, x -> x.pair(bad, 1), NONE);
            Bounds.refused("pair 1 " + bad, Bounds::rich, x -> x.pair(1, bad), NONE);
            Bounds.refused("pair " + bad + " twice", Bounds::rich, x -> x.pair(bad, bad), NONE);
        }
    }

    static void p03OneAndTheSame() {
        AtomTables x = of(4);
        Check.due("two", x.pair(1, 2), 2);
        Check.due("the first alone", x.pair(1, 1), 0);
        Check.due("1 is its own", x.converse(2), 2);
        Check.due("who was its own's too", x.converse(4), 4);
        x.pair(1, 2);
        Check.due("the second alone", x.pair(2, 2), 0);
        Check.due("1 is its own", x.converse(2), 2);
        x.pair(1, 2);
        Check.due("another alone", x.pair(3, 3), 2);
        Check.due("the two stay", x.converse(2), 4);
    }

    static void p03WhoWasEithersIsItsOwn() {
        int[][] rows = {{1, 2, 2, 3, 1}, {1, 2, 3, 2, 1}, {1, 2, 1, 3, 2}, {1, 2, 3, 1, 2}, {2, 3, 1, 2, 3}, {2, 3, 3, 1, 2}};
        for (int[] r : rows) {
            AtomTables x = of(4);
            Check.due("two", x.pair(r[0], r[1]), 2);
            Check.due("two others", x.pair(r[2], r[3]), 2);
            Check.due("the one left", x.converse(1 << r[4]), 1 << r[4]);
            Check.due("the first", x.converse(1 << r[2]), 1 << r[3]);
            Check.due("the second", x.converse(1 << r[3]), 1 << r[2]);
            Check.due("0", x.converse(1), 1);
        }
    }

    static void p03ToldAsItWasAllGoes() {
        AtomTables x = new AtomTables();
        Bounds.rich(x);
        Check.due("the same two", x.pair(2, 1), 2);
        Check.due("no THREES", x.cycles(0), 0);
        Check.due("FIXED ones", x.cycles(2), 10);
        for (int net = 0; net < 3; net++) Check.due("no node", x.drop(net), STATE);
        Check.due("no FORBIDDEN", x.forbid(-1), NOT);
        Check.due("no BOARD", x.board(1), STATE);
        Check.due("LISTS stay", x.count(3), 2);
        Check.due("THE TAPE stays", x.count(2), 16);
        Check.due("THE IMAGE stays", x.undo(), 4);
    }

    // ---- 4: CONVERSE of a RELATION (0 .. 2 to the n less 1). BAD.

    static void p04EmptyAndFull() {
        for (int n = 1; n <= 4; n++) {
            AtomTables x = of(n);
            if (n > 2) x.pair(1, n - 1);
            Check.due("the empty one", x.converse(0), 0);
            Check.due("the full one", x.converse((1 << n) - 1), (1 << n) - 1);
        }
    }

    static void p04NoRelation() {
        for (int n = 1; n <= 4; n++) {
            AtomTables x = of(n);
            for (int bad : noRelation(n)) Check.due("converse " + bad + " of " + n, x.converse(bad), BAD);
        }
        for (int bad : noRelation(4)) Bounds.refused("converse " + bad, Bounds::rich, x -> x.converse(bad), BAD);
    }

    // ---- 5: A THREE and its TURNS are IN (is 1), or not (0): how many changed. NONE; BAD; STATE.

    static void p05LeastAndGreatestAtom() {
        for (int n = 2; n <= 4; n++) {
            AtomTables x = of(n);
            Check.due("the least", x.triangle(1, 1, 1, 1), 1);
            Check.due("the greatest", x.triangle(n - 1, n - 1, n - 1, 1), n == 2 ? 0 : 1);
            Check.due("the greatest, not", x.triangle(n - 1, n - 1, n - 1, 0), 1);
        }
    }

    static void p05NoSuchAtom() {
        for (int n = 1; n <= 4; n++) {
            AtomTables x = of(n);
            for (int bad : noAtom(n)) {
                Check.due("a", x.triangle(bad, n - 1, n - 1, 1), NONE);
                Check.due("b", x.triangle(n - 1, bad, n - 1, 1), NONE);
                Check.due("c", x.triangle(n - 1, n - 1, bad, 0), NONE);
            }
        }
        for (int bad : new int[] {-1, 4}) {
            Bounds.refused("triangle: a", Bounds::rich, x -> x.triangle(bad, 1, 1, 0), NONE);
            Bounds.refused("triangle: b", Bounds::rich, x -> x.triangle(1, bad, 1, 0), NONE);
            Bounds.refused("triangle: c", Bounds::rich, x -> x.triangle(1, 1, bad, 0), NONE);
        }
    }

    static void p05IsIsNoughtOrOne() {
        for (int is : new int[] {-1, 2, MIN, MAX, 256}) {
            Bounds.refused("triangle: is " + is, Bounds::rich, x -> x.triangle(1, 1, 1, is), BAD);
            Bounds.refused("triangle: is " + is, Bounds::rich, x -> x.triangle(2, 3, 2, is), BAD);
        }
    }

    static void p05FixedOnesStay() {
        int[][] fixed = {{0, 1, 1}, {1, 0, 1}, {1, 2, 0}, {0, 0, 0}, {0, 1, 2}, {3, 0, 1}, {1, 1, 0}, {0, 0, 3}};
        for (int[] t : fixed) {
            for (int is = 0; is < 2; is++) {
                int told = is;
                Bounds.refused("triangle of a FIXED one", Bounds::rich, x -> x.triangle(t[0], t[1], t[2], told), STATE);
            }
        }
        Bounds.refused("of one atom", Bounds::fresh, x -> x.triangle(0, 0, 0, 0), STATE);
    }

    static void p05WhichRefusalComesFirst() {
        Bounds.refused("NONE, BAD, STATE", Bounds::rich, x -> x.triangle(4, 0, 1, 2), NONE);
        Bounds.refused("NONE, BAD", Bounds::rich, x -> x.triangle(1, 1, -1, 2), NONE);
        Bounds.refused("NONE, STATE", Bounds::rich, x -> x.triangle(0, 4, 1, 1), NONE);
        Bounds.refused("NONE, STATE, the last", Bounds::rich, x -> x.triangle(0, 0, 4, 1), NONE);
        Bounds.refused("BAD, STATE", Bounds::rich, x -> x.triangle(0, 1, 1, 2), BAD);
        Bounds.refused("BAD, STATE, the last", Bounds::rich, x -> x.triangle(1, 2, 0, -1), BAD);
    }

    static void p05NoneChangedAndAllSix() {
        AtomTables x = of(4);
        Check.due("out already", x.triangle(1, 2, 3, 0), 0);
        Check.due("all six", x.triangle(1, 2, 3, 1), 6);
        Check.due("in already", x.triangle(3, 1, 2, 1), 0);
        Check.due("all six go", x.triangle(2, 1, 3, 0), 6);
        Check.due("one alone", x.triangle(3, 3, 3, 1), 1);
        Check.due("three", x.triangle(3, 3, 2, 1), 3);
        x.pair(1, 2);
        Check.due("two", x.triangle(1, 1, 2, 1), 2);
    }

    static void p05NetworksForbiddenAndBoardStay() {
        AtomTables x = new AtomTables();
        Bounds.rich(x);
        int asks = x.board(1);
        Check.due("out", x.triangle(1, 1, 1, 0), 6);
        Check.due("nodes", x.count(1), 12);
        Check.due("FORBIDDEN", x.count(4), 2);
        Check.due("ASKS", x.board(1), asks);
        Check.due("nodes of THE BOARD", x.board(0), 4);
    }

    // ---- 6: Whether a THREE is IN: 1, 0. NONE.

    static void p06NoSuchAtom() {
        for (int n = 1; n <= 4; n++) {
            AtomTables x = of(n);
            for (int bad : noAtom(n)) {
                Check.due("a", x.isIn(bad, 0, 0), NONE);
                Check.due("b", x.isIn(0, bad, 0), NONE);
                Check.due("c", x.isIn(0, 0, bad), NONE);
            }
        }
        Bounds.refused("isIn", Bounds::rich, x -> x.isIn(4, 4, 4), NONE);
    }

    /** 0 x x, x 0 x and x x' 0 are IN (for all x), others with a 0 not. */
    static void p06FixedOnes() {
        for (int n = 1; n <= 4; n++) {
            AtomTables x = of(n);
            if (n > 2) x.pair(n - 2, n - 1);
            for (int a = 0; a < n; a++) {
                for (int b = 0; b < n; b++) {
                    // the last two are each other's: they come to 2 n less 3
                    int back = n > 2 && a >= n - 2 ? 2 * n - 3 - a : a;
                    Check.due("0 a b", x.isIn(0, a, b), a == b ? 1 : 0);
                    Check.due("a 0 b", x.isIn(a, 0, b), a == b ? 1 : 0);
                    Check.due("a b 0", x.isIn(a, b, 0), b == back ? 1 : 0);
                }
            }
        }
    }

    static void p06AllAndNone() {
        AtomTables x = of(4);
        for (int is = 0; is < 2; is++) {
            for (int t = 0; t < 27; t++) {
                int a = t / 9 + 1;
                int b = t / 3 % 3 + 1;
                int c = t % 3 + 1;
                if (is == 1) x.triangle(a, b, c, 1);
                Check.due("isIn", x.isIn(a, b, c), is);
            }
        }
    }

    // ---- 7: x;y. BAD.

    static void p07EmptyAndFull() {
        for (int n = 1; n <= 4; n++) {
            AtomTables x = of(n);
            int full = (1 << n) - 1;
            Check.due("empty, empty", x.compose(0, 0), 0);
            Check.due("empty, full", x.compose(0, full), 0);
            Check.due("full, empty", x.compose(full, 0), 0);
            Check.due("full, full", x.compose(full, full), full);
            Check.due("full, 0", x.compose(full, 1), full);
            Check.due("0, full", x.compose(1, full), full);
        }
    }

    static void p07NoRelation() {
        for (int n = 1; n <= 4; n++) {
            AtomTables x = of(n);
            for (int bad : noRelation(n)) {
                Check.due("x", x.compose(bad, 0), BAD);
                Check.due("y", x.compose((1 << n) - 1, bad), BAD);
            }
        }
        Bounds.refused("compose: x", Bounds::rich, x -> x.compose(16, 15), BAD);
        Bounds.refused("compose: y", Bounds::rich, x -> x.compose(15, -1), BAD);
    }

    static void p07WhichIsAheadMatters() {
        AtomTables x = Check.table(SIDED);
        Check.due("1;3", x.compose(2, 8), 2);
        Check.due("3;1 is empty", x.compose(8, 2), 0);
        Check.due("3;2", x.compose(8, 4), 4);
        Check.due("2;3 is empty", x.compose(4, 8), 0);
    }

    // ---- 8: x OVER y. BAD.

    static void p08EmptyAndFull() {
        for (int n = 1; n <= 4; n++) {
            AtomTables x = of(n);
            int full = (1 << n) - 1;
            for (int side = 0; side < 2; side++) {
                Check.due("full over full", x.over(full, full, side), full);
                Check.due("full over empty", x.over(full, 0, side), full);
                Check.due("empty over empty", x.over(0, 0, side), full);
                Check.due("empty over full", x.over(0, full, side), 0);
                Check.due("empty over 0", x.over(0, 1, side), 0);
                Check.due("0 over 0", x.over(1, 1, side), 1);
            }
        }
    }

    static void p08EitherSide() {
        AtomTables x = Check.table(SIDED);
        Check.due("z;3 empty", x.over(0, 8, 0), 4);
        Check.due("3;z empty", x.over(0, 8, 1), 2);
        Check.due("z;1 empty", x.over(0, 2, 0), 10);
        Check.due("1;z empty", x.over(0, 2, 1), 2);
    }

    static void p08NoRelationNoSide() {
        for (int n = 1; n <= 4; n++) {
            AtomTables x = of(n);
            int full = (1 << n) - 1;
            for (int bad : noRelation(n)) {
                Check.due("x", x.over(bad, full, 0), BAD);
                Check.due("y", x.over(full, bad, 1), BAD);
            }
            for (int side : new int[] {-1, 2, MIN, MAX}) Check.due("side " + side, x.over(full, full, side), BAD);
        }
        Bounds.refused("over: x", Bounds::rich, x -> x.over(16, 0, 0), BAD);
        Bounds.refused("over: y", Bounds::rich, x -> x.over(0, 16, 0), BAD);
        Bounds.refused("over: side", Bounds::rich, x -> x.over(0, 0, 2), BAD);
    }

    // ---- 9: Of the POWERS of x TAIL (what 0), PERIOD (1). BAD: x; NONE: what.

    private static void powers(AtomTables x, int r, int tail, int period) {
        Check.due("TAIL of " + r, x.power(r, 0), tail);
        Check.due("PERIOD of " + r, x.power(r, 1), period);
    }

    static void p09EmptyAndFull() {
        for (int n = 1; n <= 4; n++) {
            AtomTables x = of(n);
            powers(x, 0, 0, 1);
            powers(x, 1, 0, 1);
            powers(x, (1 << n) - 1, 0, 1);
        }
    }

    static void p09NoTailAndSome() {
        AtomTables x = Check.table(FOUR);
        // 1, 2, 3, 0 and round
        powers(x, 2, 0, 4);
        powers(x, 8, 0, 4);
        powers(x, 4, 0, 2);
        // 0 1; 0 1 2; all
        powers(x, 3, 2, 1);
        AtomTables ring = Check.table(Bounds.RING);
        // 1; 0 2; 1 2; all
        powers(ring, 2, 3, 1);
        AtomTables thin = Check.table("atoms 4;pair 1 2");
        // 1, then nothing
        powers(thin, 2, 1, 1);
    }

    static void p09NoRelationNoWhat() {
        for (int n = 1; n <= 4; n++) {
            AtomTables x = of(n);
            for (int bad : noRelation(n)) Check.due("x", x.power(bad, 0), BAD);
            for (int what : new int[] {-1, 2, MIN, MAX}) Check.due("what " + what, x.power((1 << n) - 1, what), NONE);
        }
        Bounds.refused("power: x", Bounds::rich, x -> x.power(-1, 1), BAD);
        Bounds.refused("power: what", Bounds::rich, x -> x.power(0, 2), NONE);
        Bounds.refused("power: both", Bounds::rich, x -> x.power(16, 2), BAD);
        Bounds.refused("power: both, below", Bounds::rich, x -> x.power(-1, -1), BAD);
    }

    // ---- 10: The k-th EQUIVALENCE, rising as bits, from 0; k -1: how many. NONE.

    private static void equivalences(AtomTables x, int... due) {
        Check.due("how many", x.equivalence(-1), due.length);
        for (int k = 0; k < due.length; k++) Check.due("equivalence " + k, x.equivalence(k), due[k]);
        Check.due("behind the last", x.equivalence(due.length), NONE);
        Check.due("below -1", x.equivalence(-2), NONE);
    }

    static void p10FirstLastAndBehind() {
        equivalences(of(1), 1);
        equivalences(of(2), 1, 3);
        // 1;2 is empty: any set with 0 goes
        equivalences(of(3), 1, 3, 5, 7);
        equivalences(of(4), 1, 3, 5, 7, 9, 11, 13, 15);
        equivalences(Check.table(FOUR), 1, 5, 15);
        equivalences(Check.table(Bounds.RING), 1, 7);
    }

    static void p10NoSuchOne() {
        for (int k : new int[] {-2, 3, 16, MIN, MAX}) Bounds.refused("equivalence " + k, Bounds::fresh, x -> x.equivalence(k), NONE);
        for (int k : new int[] {-2, 16}) Bounds.refused("equivalence " + k, Bounds::rich, x -> x.equivalence(k), NONE);
    }

    // ---- 11: SOLVED: how many (0), the least (1; NOT), all together (2; NOT). BAD: y, z, side; NONE: what.

    private static void solved(AtomTables x, int y, int z, int side, int many, int least, int together) {
        Check.due("how many", x.solved(y, z, side, 0), many);
        Check.due("the least", x.solved(y, z, side, 1), least);
        Check.due("together", x.solved(y, z, side, 2), together);
    }

    static void p11NoneOneAndAll() {
        for (int n = 1; n <= 4; n++) {
            AtomTables x = of(n);
            int full = (1 << n) - 1;
            for (int side = 0; side < 2; side++) {
                solved(x, 0, 0, side, full + 1, 0, full);
                solved(x, 0, full, side, 0, NOT, NOT);
                // the empty one alone: 0, not NOT
                solved(x, 1, 0, side, 1, 0, 0);
                solved(x, 1, full, side, 1, full, full);
            }
        }
    }

    static void p11EitherSide() {
        AtomTables x = Check.table(SIDED);
        // x;3 is empty for nothing and 2; 3;x for nothing and 1
        solved(x, 8, 0, 0, 2, 0, 4);
        solved(x, 8, 0, 1, 2, 0, 2);
        // x;3 is 1 for 1, 1 2; 3;x never
        solved(x, 8, 2, 0, 2, 2, 6);
        solved(x, 8, 2, 1, 0, NOT, NOT);
    }

    static void p11NoRelationNoSideNoWhat() {
        for (int n = 1; n <= 4; n++) {
            AtomTables x = of(n);
            int full = (1 << n) - 1;
            for (int bad : noRelation(n)) {
                Check.due("y", x.solved(bad, full, 0, 0), BAD);
                Check.due("z", x.solved(full, bad, 1, 1), BAD);
            }
            for (int side : new int[] {-1, 2, MIN, MAX}) Check.due("side " + side, x.solved(full, full, side, 2), BAD);
            for (int what : new int[] {-1, 3, MIN, MAX}) Check.due("what " + what, x.solved(full, full, 1, what), NONE);
        }
        Bounds.refused("solved: what", Bounds::rich, x -> x.solved(0, 0, 0, 3), NONE);
    }

    static void p11WhichRefusalComesFirst() {
        Bounds.refused("y, what", Bounds::rich, x -> x.solved(16, 0, 0, 3), BAD);
        Bounds.refused("z, what", Bounds::rich, x -> x.solved(0, -1, 0, -1), BAD);
        Bounds.refused("side, what", Bounds::rich, x -> x.solved(0, 0, 2, 3), BAD);
        Bounds.refused("no solution, what", Bounds::rich, x -> x.solved(0, 15, 0, 3), NONE);
    }

    // ---- 12: BROKEN: how many (0), the first (1; NOT); THIN: how many (2), the first (3; NOT). NONE.

    private static void broken(AtomTables x, int... due) {
        for (int what = 0; what < 4; what++) Check.due("broken " + what, x.broken(what), due[what]);
    }

    static void p12NoneOfEither() {
        broken(new AtomTables(), 0, NOT, 0, NOT);
        broken(of(2), 0, NOT, 0, NOT);
        broken(Check.table(FOUR), 0, NOT, 0, NOT);
        broken(Check.table(Bounds.RING), 0, NOT, 0, NOT);
    }

    /** a b c is BROKEN also where none is IN; THIN ones and BROKEN ones are told apart. */
    static void p12SomeOfEither() {
        // 1;1 and 2;2 are 0, 1;2 and 2;1 empty: (1;1);2 is 2, 1;(1;2) empty, and so on
        broken(of(3), 4, 112, 2, 12);
        // 1;1 and 2;2 are empty, 1;2 and 2;1 are 0
        broken(Check.table("atoms 3;pair 1 2"), 4, 112, 2, 11);
        // 1;1 is 0 2, 1;2 and 2;1 are 1, 2;2 is 0: the ring of four without its sides told apart
        broken(Check.table("atoms 3;in 1 1 2"), 0, NOT, 0, NOT);
        // 1;1 is 0 1, 2;2 is 0, 1;2 empty: (1;1);2 is 2, 1;(1;2) empty; (1;2);2 empty, 1;(2;2) is 1; ..
        broken(Check.table("atoms 3;in 1 1 1"), 4, 112, 2, 12);
    }

    static void p12NoSuchWhat() {
        for (int what : new int[] {-1, 4, 5, MIN, MAX}) {
            Bounds.refused("broken " + what, Bounds::rich, x -> x.broken(what), NONE);
            Bounds.refused("broken " + what + " of a new one", Bounds::fresh, x -> x.broken(what), NONE);
        }
    }

    // ---- 13: CYCLES that are IN (0), that can be (1), THREES that are IN (2), of the greatest (3; 0). NONE.

    private static void cycles(AtomTables x, int... due) {
        for (int what = 0; what < 4; what++) Check.due("cycles " + what, x.cycles(what), due[what]);
    }

    static void p13NoneIsIn() {
        cycles(new AtomTables(), 0, 0, 1, 0);
        cycles(of(2), 0, 1, 4, 0);
        cycles(of(3), 0, 4, 7, 0);
        cycles(of(4), 0, 10, 10, 0);
        cycles(Check.table("atoms 3;pair 1 2"), 0, 2, 7, 0);
        cycles(Check.table("atoms 4;pair 2 3"), 0, 7, 10, 0);
    }

    static void p13AllAreIn() {
        int[][] due = {{1, 1, 5, 1}, {4, 4, 15, 3}, {10, 10, 37, 6}};
        for (int n = 2; n <= 4; n++) {
            AtomTables x = of(n);
            for (int a = 1; a < n; a++) for (int b = 1; b < n; b++) for (int c = 1; c < n; c++) x.triangle(a, b, c, 1);
            cycles(x, due[n - 2]);
        }
    }

    static void p13TheGreatestOfEachSize() {
        AtomTables x = Check.table("atoms 4;pair 1 2;in 3 3 3");
        cycles(x, 1, 7, 11, 1);
        x.triangle(1, 1, 2, 1);
        cycles(x, 2, 7, 13, 2);
        x.triangle(1, 3, 1, 1);
        cycles(x, 3, 7, 16, 3);
        x.triangle(1, 1, 1, 1);
        cycles(x, 4, 7, 22, 6);
        x.triangle(1, 1, 1, 0);
        cycles(x, 3, 7, 16, 3);
    }

    static void p13NoSuchWhat() {
        for (int what : new int[] {-1, 4, 5, MIN, MAX}) {
            Bounds.refused("cycles " + what, Bounds::rich, x -> x.cycles(what), NONE);
            Bounds.refused("cycles " + what + " of a new one", Bounds::fresh, x -> x.cycles(what), NONE);
        }
    }
}
