/** Boundary cases of promises 33 to 37: pictures, lists. */
public final class PicturesBoundsTest {
    private static final int NONE = Bounds.NONE, BAD = Bounds.BAD, NOT = Bounds.NOT;
    private static final int MISSING = Bounds.MISSING, PLACE = Bounds.PLACE, BELOW = Bounds.BELOW;
    private static final long VOID = Bounds.VOID;
    private static final int MIN = Bounds.MIN, MAX = Bounds.MAX;
    /** On a ring of twelve: 1 for odd steps, 3 for six, 2 for the other even ones. */
    private static final String TWELVE = "atoms 4;in 1 1 2;in 1 1 3;in 2 2 2;in 2 2 3";
    private static final long[] TWELVE_RING = {1, 2, 1, 2, 1, 3, 1, 2, 1, 2, 1};

    public static void main(String[] args) throws Exception {
        Bounds.run(PicturesBoundsTest.class, 33, 37);
    }

    private static int judged(AtomTables x, long... atoms) {
        Bounds.list(x, 2, atoms);
        return x.judge(2);
    }

    private static long[] ones(int size) {
        long[] row = new long[size];
        java.util.Arrays.fill(row, 1);
        return row;
    }

    /** A list with one place written over. */
    private static long[] but(long[] row, int place, long v) {
        long[] other = row.clone();
        other[place] = v;
        return other;
    }

    // ---- 33: JUDGED; NOT. NONE; MISSING; BAD: its size is not 1 .. 12.

    static void p33SizesOneToTwelve() {
        AtomTables x = Check.table(Bounds.CLIQUE);
        Check.due("no places", judged(x), BAD);
        // two points: 1 is not made of 1 and 1
        Check.due("one", judged(x, ones(1)), 101);
        for (int size = 2; size <= 12; size++) Check.due("size " + size, judged(x, ones(size)), NOT);
        Check.due("a first place", judged(x, but(ones(12), 0, 0)), 0);
    }

    static void p33NoListMissingNoPlaces() {
        for (int list : Bounds.OUTSIDE) {
            Bounds.refused("judge of " + list, Bounds::rich, x -> x.judge(list), NONE);
            Bounds.refused("judge of " + list + " of a new one", Bounds::fresh, x -> x.judge(list), NONE);
        }
        Bounds.refused("missing", Bounds::rich, x -> x.judge(2), MISSING);
        Bounds.refused("no places", Bounds::rich, x -> x.judge(1), BAD);
        for (int list = 0; list < 3; list++) {
            int one = list;
            Bounds.refused("missing at first", Bounds::fresh, x -> x.judge(one), MISSING);
        }
        Bounds.refused("it is looked at alone", Bounds::rich, x -> x.judge(0), 0);
    }

    static void p33MissingAgain() {
        AtomTables x = Check.table(Bounds.CLIQUE);
        Check.due("there", judged(x, 1, 1), NOT);
        x.list(2, -1);
        Check.due("missing", x.judge(2), MISSING);
        x.list(2, 0);
        Check.due("no places", x.judge(2), BAD);
        x.list(2, 1);
        Check.due("a 0", x.judge(2), 0);
    }

    static void p33AtomsButNoughtOfThoseThereAre() {
        for (int n = 1; n <= 4; n++) {
            AtomTables x = new AtomTables();
            x.atoms(n);
            for (long bad : new long[] {0, n, -1, n + 1, Long.MIN_VALUE, Long.MAX_VALUE, (1L << 32) + 1, -(1L << 32) + 1}) {
                Check.due("one place with " + bad, judged(x, bad), 0);
                Check.due("two with " + bad, judged(x, bad, bad), 0);
            }
            for (long good = 1; good < n; good++) {
                Check.due("one place with " + good, judged(x, good), n == 2 ? NOT : 200);
            }
        }
    }

    /** Of two that do not go together the first is told: the farthest place is the middle. */
    static void p33FirstAndFarthestPlace() {
        AtomTables x = Check.table(Bounds.CLIQUE);
        for (int size = 1; size <= 12; size++) {
            for (int place = 0; place < size; place++) {
                int first = Math.min(place, size - 1 - place);
                Check.due("a 0 at " + place, judged(x, but(ones(size), place, 0)), first);
            }
            x = Check.table(Bounds.CLIQUE);
        }
        AtomTables y = Check.table("atoms 3;pair 1 2;in 1 1 1");
        Check.due("the middle of eleven is not its own converse", judged(y, 1, 1, 1, 1, 1, 1, 2, 2, 2, 2, 2), 5);
        Check.due("nor that of one", judged(y, 2), 0);
        Check.due("the middle two of twelve", judged(y, 1, 1, 1, 1, 1, 1, 1, 2, 2, 2, 2, 2), 5);
        Check.due("the outer two", judged(y, 1, 1), 0);
        // step 1 is 4 and 4: 2 2 1 is not IN
        Check.due("all places go", judged(y, 1, 1, 1, 2, 2, 2), 101);
    }

    static void p33TwoFaultyPlaces() {
        AtomTables x = Check.table(Bounds.RING);
        Check.due("no atom at 3, ends differ at 0", judged(x, 1, 2, 2, 0), 0);
        Check.due("ends differ at 1, no atom at 2", judged(x, 1, 2, 3, 1), 1);
        Check.due("no atom in the middle, ends differ ahead", judged(x, 1, 2, 9, 1, 1), 1);
        Check.due("no atom in the middle alone", judged(x, 1, 2, 9, 2, 1), 2);
        Check.due("a place ahead of an atom that stands nowhere", judged(x, 1, 1, 1, 2), 0);
    }

    static void p33AnAtomStandsNowhere() {
        AtomTables x = new AtomTables();
        x.atoms(4);
        Check.due("1", judged(x, 2, 3, 3, 2), 200);
        Check.due("2", judged(x, 1, 3, 3, 1), 200);
        Check.due("3", judged(x, 1, 2, 2, 1), 200);
        Check.due("all but one", judged(x, ones(12)), 200);
        Check.due("none, but a step is not so", judged(x, 1, 2, 3, 3, 2, 1), 101);
    }

    static void p33LeastAndFarthestStep() {
        AtomTables x = Check.table(TWELVE);
        Check.due("twelve points", judged(x, TWELVE_RING), NOT);
        x.triangle(1, 1, 1, 1);
        Check.due("step 1", judged(x, TWELVE_RING), 101);
        x.triangle(1, 1, 1, 0);
        x.triangle(2, 2, 2, 0);
        Check.due("step 2", judged(x, TWELVE_RING), 102);
        x.triangle(2, 2, 2, 1);
        x.triangle(3, 3, 3, 1);
        Check.due("step 6", judged(x, TWELVE_RING), 106);
        x.triangle(3, 3, 3, 0);
        Check.due("again", judged(x, TWELVE_RING), NOT);
        x.triangle(1, 1, 3, 0);
        Check.due("what is made, but not IN", judged(x, TWELVE_RING), 101);
    }

    static void p33TwoPointsAndThirteen() {
        Check.due("two points", judged(Check.table("atoms 2"), 1), NOT);
        AtomTables x = new AtomTables();
        long[] ring = cubes(x);
        Check.due("thirteen points", judged(x, ring), NOT);
        Check.due("one less", judged(x, java.util.Arrays.copyOf(ring, 11)), 0);
    }

    /** Tells the table of the three classes of cubes among 1 .. 12, and answers their atoms. */
    private static long[] cubes(AtomTables x) {
        long[] atoms = new long[12];
        int power = 1;
        for (int k = 0; k < 12; k++) {
            atoms[power - 1] = k % 3 + 1;
            power = power * 2 % 13;
        }
        x.atoms(4);
        for (int d = 1; d < 13; d++)
            for (int e = 1; e < 13; e++)
                if (d != e) x.triangle((int) atoms[e - 1], (int) atoms[(d - e + 13) % 13 - 1], (int) atoms[d - 1], 1);
        return atoms;
    }

    // ---- 34: FOUND: a LIST becomes its ATOMS of STEPS 1, 2, ..: m; NOT: there is none (the LIST stays). NONE.

    private static void found(AtomTables x, int list, long... atoms) {
        Check.due("found", x.found(list), atoms.length + 1);
        for (int i = 0; i < atoms.length; i++) Check.due("step " + (i + 1), x.get(list, i), atoms[i]);
        Check.due("behind the last", x.get(list, atoms.length), VOID);
        Check.due("so many it holds", x.put(list, atoms.length, 1), PLACE);
    }

    static void p34TwoPointsAndThirteen() {
        found(Check.table("atoms 2"), 0, 1);
        found(Check.table(Bounds.CLIQUE), 2, 1, 1);
        AtomTables x = new AtomTables();
        found(x, 1, cubes(x));
        Check.due("a full list", x.put(1, 11, 5), 1);
    }

    static void p34TheFirstOfSeveral() {
        // the other way round, step 1 having 2, is as true
        found(Check.table(Bounds.RING), 0, 1, 2, 2, 1);
        found(Check.table("atoms 3;pair 1 2;in 1 1 2"), 0, 1, 2);
        found(Check.table("atoms 4;pair 1 3;in 1 1 2"), 0, 1, 2, 3);
        found(Check.table("atoms 4;pair 2 3;in 2 2 1"), 0, 2, 1, 3);
    }

    static void p34ThereIsNone() {
        // no step; 1;2 empty, so no two steps go; before and behind have no ring
        for (String table : new String[] {"atoms 1", "atoms 3", "atoms 4", Bounds.ORDER}) {
            AtomTables x = Check.table(table);
            Bounds.list(x, 0, 7, 8);
            Check.due("found by " + table, x.found(0), NOT);
            Check.due("the list stays", x.get(0, 1), 8);
            Check.due("and its size", x.get(0, 2), VOID);
        }
        Bounds.refused("none", Bounds::rich, x -> x.found(0), NOT);
        Bounds.refused("none, into one without places", Bounds::rich, x -> x.found(1), NOT);
        Bounds.refused("none, into a missing one", Bounds::rich, x -> x.found(2), NOT);
        Bounds.refused("none, at first", Bounds::fresh, x -> x.found(0), NOT);
    }

    static void p34AnyListBecomesIt() {
        AtomTables x = Check.table("atoms 2");
        Check.due("a missing one", x.found(0), 2);
        x.list(1, 0);
        Check.due("one without places", x.found(1), 2);
        Bounds.list(x, 2, 9, 9, 9, 9, 9, 9, 9, 9, 9, 9, 9, 9);
        Check.due("a full one", x.found(2), 2);
        for (int list = 0; list < 3; list++) {
            Check.due("its one place", x.get(list, 0), 1);
            Check.due("no second", x.get(list, 1), VOID);
        }
        Check.due("three lists", x.count(3), 3);
        x.list(2, 3);
        Check.due("nothing of old", x.get(2, 2), 0);
    }

    static void p34NoSuchList() {
        for (int list : Bounds.OUTSIDE) {
            Bounds.refused("found, where there is one", Bounds::quietBoard, x -> x.found(list), NONE);
            Bounds.refused("found, where there is none", Bounds::rich, x -> x.found(list), NONE);
            Bounds.refused("found of a new one", Bounds::fresh, x -> x.found(list), NONE);
        }
    }

    // ---- 35: A LIST holds n longs (0 .. 12), all 0, or is missing (n -1): 1. NONE: list; BAD: n above 12; BELOW.

    static void p35NoneToTwelve() {
        AtomTables x = new AtomTables();
        for (int n = 0; n <= 12; n++) {
            Check.due("list of " + n, x.list(n % 3, n), 1);
            for (int i = 0; i < n; i++) {
                Check.due("a 0", x.get(n % 3, i), 0);
                x.put(n % 3, i, 5);
            }
            Check.due("no more", x.get(n % 3, n), VOID);
        }
    }

    static void p35MissingAtMinusOne() {
        AtomTables x = new AtomTables();
        Check.due("missing, as it was", x.list(0, -1), 1);
        Check.due("none is there", x.count(3), 0);
        x.list(0, 12);
        Check.due("one is there", x.count(3), 1);
        Check.due("missing", x.list(0, -1), 1);
        Check.due("none is there", x.count(3), 0);
        Check.due("nothing to put to", x.put(0, 0, 1), MISSING);
        Check.due("nothing to get", x.get(0, 0), VOID);
    }

    static void p35AllNoughtAnew() {
        AtomTables x = new AtomTables();
        for (int n : new int[] {12, 12, 1, 12}) {
            x.list(1, n);
            for (int i = 0; i < n; i++) {
                Check.due("a 0", x.get(1, i), 0);
                x.put(1, i, -1);
            }
        }
    }

    static void p35AboveAndBelow() {
        for (int n : new int[] {13, 14, MAX}) {
            Bounds.refused("list of " + n, Bounds::rich, x -> x.list(0, n), BAD);
            Bounds.refused("a missing one, " + n, Bounds::rich, x -> x.list(2, n), BAD);
        }
        for (int n : new int[] {-2, -3, MIN}) {
            Bounds.refused("list of " + n, Bounds::rich, x -> x.list(0, n), BELOW);
            Bounds.refused("a missing one, " + n, Bounds::rich, x -> x.list(2, n), BELOW);
        }
    }

    static void p35WhichRefusalComesFirst() {
        for (int list : Bounds.OUTSIDE) {
            for (int n : new int[] {-1, 0, 12, 13, -2}) Bounds.refused("list " + list, Bounds::rich, x -> x.list(list, n), NONE);
        }
    }

    // ---- 36: Place i of a LIST becomes v: 1. NONE; MISSING; PLACE.

    static void p36FirstAndLastPlace() {
        AtomTables x = new AtomTables();
        for (int n = 1; n <= 12; n++) {
            x.list(0, n);
            Check.due("the last", x.put(0, n - 1, Long.MAX_VALUE), 1);
            Check.due("the first", x.put(0, 0, Long.MIN_VALUE), 1);
            Check.due("it is there", x.get(0, 0), Long.MIN_VALUE);
            if (n > 1) Check.due("it is there, too", x.get(0, n - 1), Long.MAX_VALUE);
            for (int i : new int[] {n, -1, 12, 13, MIN, MAX}) Check.due("no place " + i, x.put(0, i, 1), PLACE);
        }
        x.list(0, 0);
        Check.due("without places", x.put(0, 0, 1), PLACE);
    }

    static void p36ListsAreApart() {
        AtomTables x = new AtomTables();
        for (int list = 0; list < 3; list++) x.list(list, 12);
        for (int list = 0; list < 3; list++) {
            x.put(list, 0, 10 + list);
            x.put(list, 11, 20 + list);
        }
        for (int list = 0; list < 3; list++) {
            Check.due("the first", x.get(list, 0), 10 + list);
            Check.due("the last", x.get(list, 11), 20 + list);
        }
    }

    static void p36WhichRefusalComesFirst() {
        for (int list : Bounds.OUTSIDE) {
            Bounds.refused("NONE", Bounds::rich, x -> x.put(list, 0, 1), NONE);
            Bounds.refused("NONE, PLACE", Bounds::rich, x -> x.put(list, 12, 1), NONE);
        }
        for (int i : new int[] {0, -1, 12, MIN, MAX}) Bounds.refused("MISSING at " + i, Bounds::rich, x -> x.put(2, i, 1), MISSING);
        for (int i : new int[] {-1, 12, MIN, MAX}) Bounds.refused("PLACE " + i, Bounds::rich, x -> x.put(0, i, 1), PLACE);
        for (int i : new int[] {0, -1, 1}) Bounds.refused("PLACE " + i + " of none", Bounds::rich, x -> x.put(1, i, 1), PLACE);
    }

    // ---- 37: Place i of a LIST. VOID: no such LIST, missing, no such place.

    static void p37FirstAndLastPlace() {
        AtomTables x = new AtomTables();
        for (int n = 1; n <= 12; n++) {
            Bounds.list(x, 2, ones(n));
            Check.due("the first", x.get(2, 0), 1);
            Check.due("the last", x.get(2, n - 1), 1);
            for (int i : new int[] {n, -1, 12, MIN, MAX}) Check.due("no place " + i, x.get(2, i), VOID);
        }
    }

    static void p37Void() {
        for (int list : Bounds.OUTSIDE) {
            for (int i : new int[] {0, -1, 12}) Bounds.refused("no such list", Bounds::rich, x -> x.get(list, i), VOID);
        }
        for (int i : new int[] {0, -1, 12}) {
            Bounds.refused("missing", Bounds::rich, x -> x.get(2, i), VOID);
            Bounds.refused("without places", Bounds::rich, x -> x.get(1, i), VOID);
        }
        Bounds.refused("behind the last", Bounds::rich, x -> x.get(0, 12), VOID);
        Bounds.refused("ahead of the first", Bounds::rich, x -> x.get(0, -1), VOID);
    }

    static void p37TheLeastLongMayBeThere() {
        AtomTables x = new AtomTables();
        x.list(0, 1);
        x.put(0, 0, VOID);
        Check.due("it is there", x.get(0, 0), VOID);
        Check.due("it is no place behind", x.put(0, 1, 0), PLACE);
    }
}
