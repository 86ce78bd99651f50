/** Promises 33 to 37: pictures, lists. */
public final class PicturesTest {
    private static final int NONE = AtomTables.NONE, BAD = AtomTables.BAD, NOT = AtomTables.NOT;
    private static final int MISSING = AtomTables.MISSING, PLACE = AtomTables.PLACE, BELOW = AtomTables.BELOW;
    private static final int MIN = Integer.MIN_VALUE, MAX = Integer.MAX_VALUE;
    private static final int[] NO_LIST = {-1, 3, MIN, MAX};
    private static final String RING = "atoms 3;in 1 1 2;in 2 2 1";

    public static void main(String[] args) {
        judge();
        judgedPlaces();
        found();
        list();
        put();
        get();
        Check.end("PicturesTest");
    }

    private static int judged(AtomTables x, long... atoms) {
        x.list(2, atoms.length);
        for (int i = 0; i < atoms.length; i++) x.put(2, i, atoms[i]);
        return x.judge(2);
    }

    private static void judge() {
        AtomTables x = Check.table(RING);
        for (int list : NO_LIST) Check.due("judge of no list", x.judge(list), NONE);
        Check.due("missing", x.judge(0), MISSING);
        Check.due("without places", judged(x), BAD);
        Check.due("a ring of five", judged(x, 1, 2, 2, 1), NOT);
        Check.due("the other way", judged(x, 2, 1, 1, 2), NOT);
        Check.due("2 nowhere", judged(x, 1, 1, 1, 1), 200);
        Check.due("1 nowhere", judged(x, 2), 200);
        // six points: step 2 is step 4 twice, so 2 is made of 2 and 2, which is not in
        Check.due("step 2 fails", judged(x, 1, 2, 2, 2, 1), 102);
        // four points, 1 2 1: 1 is 1 2 and 2 1, not 2 2
        Check.due("four points", judged(x, 1, 2, 1), 101);
        AtomTables square = Check.table("atoms 3;in 1 1 2");
        Check.due("a square", judged(square, 1, 2, 1), NOT);
        Check.due("no square", judged(square, 2, 1, 2), 101);
        square.triangle(2, 2, 2, 1);
        Check.due("step 2 fails", judged(square, 1, 2, 1), 102);
        AtomTables three = Check.table("atoms 3;pair 1 2;in 1 1 2");
        Check.due("three points", judged(three, 1, 2), NOT);
        Check.due("three points, the other way", judged(three, 2, 1), NOT);
        AtomTables one = new AtomTables();
        Check.due("no atom but 0", judged(one, 0), 0);
        AtomTables two = Check.table("atoms 2");
        Check.due("two points", judged(two, 1), NOT);
        Check.due("three are too many", judged(two, 1, 1), 101);
        two.triangle(1, 1, 1, 1);
        Check.due("two are not enough", judged(two, 1), 101);
        Check.due("three are", judged(two, 1, 1), NOT);
        Check.due("thirteen are", judged(two, 1, 1, 1, 1, 1, 1, 1, 1, 1, 1, 1, 1), NOT);
    }

    private static void judgedPlaces() {
        AtomTables x = Check.table(RING);
        Check.due("0", judged(x, 1, 0, 2, 1), 1);
        Check.due("the other end is 0", judged(x, 1, 2, 0, 1), 1);
        Check.due("3 is no atom", judged(x, 3, 2, 2, 1), 0);
        Check.due("3 is no atom at both ends", judged(x, 3, 2, 1, 2, 3), 0);
        Check.due("the other end is none", judged(x, 1, 2, 2, 3), 0);
        Check.due("below 0", judged(x, 1, -1, -1, 1), 1);
        Check.due("far beyond an int", judged(x, 1, 2, (1L << 32) + 2, 1), 1);
        Check.due("the least long", judged(x, Long.MIN_VALUE, Long.MIN_VALUE), 0);
        Check.due("in the middle", judged(x, 1, 2, 7, 2, 1), 2);
        Check.due("ends differ", judged(x, 1, 2, 2, 2), 0);
        AtomTables y = Check.table("atoms 3;pair 1 2;in 1 1 1");
        // step 1 is step 3 twice: 2 2 1 is not in
        Check.due("converses", judged(y, 1, 1, 2, 2), 101);
        Check.due("no converse", judged(y, 1, 1, 1, 2), 1);
        Check.due("the middle is its own", judged(y, 1, 1, 2), 1);
        Check.due("a single one", judged(y, 1), 0);
    }

    private static void found(AtomTables x, int list, int... atoms) {
        Check.due("found", x.found(list), atoms.length + 1);
        for (int i = 0; i < atoms.length; i++) Check.due("step " + (i + 1), x.get(list, i), atoms[i]);
        Check.due("behind the last", x.get(list, atoms.length), AtomTables.VOID);
        Check.due("it is true", x.judge(list), NOT);
    }

    private static void found() {
        AtomTables x = new AtomTables();
        for (int list : NO_LIST) Check.due("found of no list", x.found(list), NONE);
        Check.due("no atom but 0", x.found(0), NOT);
        Check.due("it is missing still", x.count(3), 0);
        found(Check.table("atoms 2"), 0, 1);
        found(Check.table("atoms 2;in 1 1 1"), 1, 1, 1);
        found(Check.table("atoms 3;in 1 1 2"), 2, 1, 2, 1);
        found(Check.table("atoms 3;in 2 2 1"), 2, 2, 1, 2);
        found(Check.table(RING), 0, 1, 2, 2, 1);
        found(Check.table("atoms 3;pair 1 2;in 1 1 2"), 0, 1, 2);
        // the squares of seven and the others
        found(Check.table("atoms 3;pair 1 2;in 1 1 1;in 1 1 2"), 0, 1, 1, 2, 1, 2, 2);
        // a ring of six points: 1 beside, 2 two away, 3 across
        found(Check.table("atoms 4;in 1 1 2;in 2 2 2;in 1 2 3"), 1, 1, 2, 3, 2, 1);
        AtomTables cubes = new AtomTables();
        int[] ring = cubesOfThirteen(cubes);
        found(cubes, 2, ring);
        AtomTables y = Check.table("atoms 3;pair 1 2;in 1 1 1");
        y.list(1, 3);
        y.put(1, 2, 77);
        Check.due("there is none", y.found(1), NOT);
        Check.due("the list stays", y.get(1, 2), 77);
        AtomTables odd = Check.table("atoms 3;pair 1 2");
        Check.due("a broken table has none", odd.found(0), NOT);
        Check.due("and the list is missing still", odd.get(0, 0), AtomTables.VOID);
        Check.due("and not there", odd.count(3), 0);
        AtomTables z = Check.table(RING);
        z.list(0, 12);
        found(z, 0, 1, 2, 2, 1);
    }

    /** Tells the table of the three classes of cubes among 1 .. 12, and answers their atoms. */
    private static int[] cubesOfThirteen(AtomTables x) {
        int[] atoms = new int[12];
        int power = 1;
        for (int k = 0; k < 12; k++) {
            atoms[power - 1] = k % 3 + 1;
            power = power * 2 % 13;
        }
        x.atoms(4);
        for (int d = 1; d < 13; d++)
            for (int e = 1; e < 13; e++)
                if (d != e) x.triangle(atoms[e - 1], atoms[(d - e + 13) % 13 - 1], atoms[d - 1], 1);
        return atoms;
    }

    private static void list() {
        AtomTables x = new AtomTables();
        for (int list : NO_LIST) Check.due("list: NONE", x.list(list, 99), NONE);
        Check.due("BAD", x.list(0, 13), BAD);
        Check.due("BAD, far", x.list(0, MAX), BAD);
        Check.due("BELOW", x.list(0, -2), BELOW);
        Check.due("BELOW, far", x.list(0, MIN), BELOW);
        Check.due("missing still", x.count(3), 0);
        Check.due("missing again", x.list(0, -1), 1);
        Check.due("missing still", x.count(3), 0);
        Check.due("12", x.list(0, 12), 1);
        Check.due("the last place", x.get(0, 11), 0);
        x.put(0, 0, 6);
        x.put(0, 1, 5);
        Check.due("0", x.list(1, 0), 1);
        Check.due("two are there", x.count(3), 2);
        Check.due("shorter", x.list(0, 2), 1);
        Check.due("all 0", x.get(0, 0), 0);
        Check.due("all 0", x.get(0, 1), 0);
        Check.due("no more than that", x.get(0, 2), AtomTables.VOID);
        Check.due("gone", x.list(0, -1), 1);
        Check.due("one is there", x.count(3), 1);
        Check.due("missing", x.put(0, 0, 1), MISSING);
        x.put(1, 0, 9);
        x.list(1, 3);
        x.list(2, 3);
        x.put(1, 2, 4);
        Check.due("lists are apart", x.get(2, 2), 0);
    }

    private static void put() {
        AtomTables x = new AtomTables();
        for (int list : NO_LIST) Check.due("put: NONE", x.put(list, 99, 1), NONE);
        Check.due("MISSING", x.put(0, 99, 1), MISSING);
        x.list(0, 2);
        for (int i : new int[] {-1, 2, 12, MIN, MAX}) Check.due("put at " + i, x.put(0, i, 1), PLACE);
        Check.due("put", x.put(0, 1, Long.MAX_VALUE), 1);
        Check.due("it is there", x.get(0, 1), Long.MAX_VALUE);
        Check.due("put", x.put(0, 0, Long.MIN_VALUE), 1);
        Check.due("it is there", x.get(0, 0), Long.MIN_VALUE);
        x.list(1, 0);
        Check.due("no place at all", x.put(1, 0, 1), PLACE);
    }

    private static void get() {
        AtomTables x = new AtomTables();
        for (int list : NO_LIST) Check.due("get: no list", x.get(list, 0), AtomTables.VOID);
        Check.due("missing", x.get(1, 0), AtomTables.VOID);
        x.list(1, 3);
        for (int i : new int[] {-1, 3, MIN, MAX}) Check.due("get at " + i, x.get(1, i), AtomTables.VOID);
        x.put(1, 2, -7);
        Check.due("get", x.get(1, 2), -7);
        Check.due("another place", x.get(1, 1), 0);
    }
}
