/** Promises 1 to 13: a new object, atoms, threes, relations. */
public final class AtomsTest {
    private static final int NONE = AtomTables.NONE, BAD = AtomTables.BAD, STATE = AtomTables.STATE, NOT = AtomTables.NOT;
    private static final int MIN = Integer.MIN_VALUE, MAX = Integer.MAX_VALUE;
    /** Before and behind: 1 is before, 2 behind. */
    private static final String ORDER = "atoms 3;pair 1 2;in 1 1 1";
    /** Beside and across on a ring of five. */
    private static final String RING = "atoms 3;in 1 1 2;in 2 2 1";

    public static void main(String[] args) {
        newObject();
        atoms();
        pair();
        converse();
        triangle();
        isIn();
        compose();
        over();
        power();
        equivalence();
        solved();
        broken();
        cycles();
        Check.end("AtomsTest");
    }

    private static void newObject() {
        AtomTables x = new AtomTables();
        int[] counts = {1, 0, 0, 0, 0};
        for (int what = 0; what < 5; what++) Check.due("new: count " + what, x.count(what), counts[what]);
        Check.due("new: isIn", x.isIn(0, 0, 0), 1);
        Check.due("new: isIn 1", x.isIn(0, 0, 1), NONE);
        Check.due("new: board", x.board(0), STATE);
        Check.due("new: undo", x.undo(), STATE);
        Check.due("new: forbid", x.forbid(-1), NOT);
        Check.due("new: get", x.get(0, 0), AtomTables.VOID);
        Check.due("new: spelled", Check.spelling(x).equals("atoms 1") ? 1 : 0, 1);
    }

    private static void atoms() {
        AtomTables x = new AtomTables();
        for (int n : new int[] {0, 5, -1, MIN, MAX}) Check.due("atoms " + n, x.atoms(n), BAD);
        Check.due("atoms 4", x.atoms(4), 1);
        Check.due("atoms 4 again", x.atoms(4), 4);
        Check.due("pair", x.pair(1, 2), 2);
        Check.due("triangle", x.triangle(1, 1, 1, 1), 6);
        Check.nodes(x, 0, 0, 1);
        Check.nodes(x, 2, 0);
        Check.due("forbid", x.forbid(2), NOT);
        Check.due("forbid, nothing in it", x.forbid(-1), 1);
        Check.due("begin", x.begin(0) >= 0 ? 1 : 0, 1);
        x.forbid(0);
        x.list(1, 2);
        x.feed('a');
        Check.due("atoms 5", x.atoms(5), BAD);
        Check.due("a refusal keeps the nodes", x.count(1), 3);
        Check.due("a refusal keeps the board", x.board(0), 2);
        Check.due("a refusal keeps the converse", x.converse(2), 4);
        Check.due("atoms 4 anew", x.atoms(4), 4);
        Check.due("own converses", x.converse(2), 2);
        Check.due("no threes", x.cycles(0), 0);
        Check.due("fixed threes", x.cycles(2), 10);
        Check.due("no nodes", x.count(1), 0);
        Check.due("nothing forbidden", x.forbid(-1), NOT);
        Check.due("no board", x.board(0), STATE);
        Check.due("lists stay", x.count(3), 1);
        Check.due("the tape stays", x.count(2), 1);
        Check.due("atoms 1", x.atoms(1), 4);
        Check.due("one atom", x.isIn(1, 0, 1), NONE);
    }

    private static void pair() {
        AtomTables x = new AtomTables();
        Check.due("pair of one atom", x.pair(0, 0), NONE);
        x.atoms(4);
        int[][] none = {{0, 1}, {1, 0}, {4, 1}, {1, 4}, {-1, 1}, {1, MIN}, {MAX, 1}};
        for (int[] p : none) Check.due("pair " + p[0] + " " + p[1], x.pair(p[0], p[1]), NONE);
        Check.due("pair 1 2", x.pair(1, 2), 2);
        Check.due("1 is 2's", x.converse(2), 4);
        Check.due("2 is 1's", x.converse(4), 2);
        Check.due("pair 2 3", x.pair(2, 3), 2);
        Check.due("1 is its own then", x.converse(2), 2);
        Check.due("2 is 3's", x.converse(4), 8);
        Check.due("pair 3 2", x.pair(3, 2), 2);
        Check.due("3 is 2's", x.converse(8), 4);
        Check.due("pair 1 2: the second has a partner", x.pair(1, 2), 2);
        Check.due("3 is its own then", x.converse(8), 8);
        Check.due("pair 3 2", x.pair(3, 2), 2);
        Check.due("1 is its own again", x.converse(2), 2);
        Check.due("x x' 0", x.isIn(2, 3, 0), 1);
        Check.due("x x 0", x.isIn(2, 2, 0), 0);
        x.triangle(1, 1, 1, 1);
        Check.nodes(x, 1, 0);
        x.begin(1);
        x.forbid(1);
        Check.due("pair 0 1", x.pair(0, 1), NONE);
        Check.due("a refusal keeps all", x.count(1) + x.cycles(0) + x.count(4), 3);
        Check.due("pair 3 3", x.pair(3, 3), 0);
        Check.due("2 is its own then", x.converse(4), 4);
        Check.due("threes go", x.cycles(0), 0);
        Check.due("nodes go", x.count(1), 0);
        Check.due("forbidden goes", x.forbid(-1), NOT);
        Check.due("the board goes", x.board(0), STATE);
        x.triangle(1, 1, 1, 1);
        Check.due("what it was already", x.pair(1, 1), 0);
        Check.due("told all the same", x.cycles(0), 0);
    }

    private static void converse() {
        AtomTables x = Check.table("atoms 4;pair 1 3");
        int[] due = {0, 1, 8, 9, 4, 5, 12, 13, 2, 3, 10, 11, 6, 7, 14, 15};
        for (int r = 0; r < 16; r++) Check.due("converse " + r, x.converse(r), due[r]);
        for (int r : new int[] {-1, 16, MIN, MAX}) Check.due("converse " + r, x.converse(r), BAD);
        x.atoms(2);
        Check.due("converse 4 of two atoms", x.converse(4), BAD);
    }

    private static void triangle() {
        AtomTables x = Check.table("atoms 4;pair 1 2");
        Check.due("1 1 1", x.triangle(1, 1, 1, 1), 6);
        int[][] turns = {{1, 1, 1}, {2, 1, 1}, {1, 2, 1}, {2, 2, 2}, {1, 2, 2}, {2, 1, 2}};
        for (int[] t : turns) Check.due("a turn of 1 1 1", x.isIn(t[0], t[1], t[2]), 1);
        Check.due("1 1 2 is none", x.isIn(1, 1, 2), 0);
        Check.due("1 1 2", x.triangle(1, 1, 2, 1), 2);
        Check.due("2 2 1", x.triangle(2, 2, 1, 1), 0);
        Check.due("3 3 3", x.triangle(3, 3, 3, 1), 1);
        Check.due("3 3 3 again", x.triangle(3, 3, 3, 1), 0);
        Check.due("1 3 3", x.triangle(1, 3, 3, 1), 6);
        Check.due("3 2 3 is a turn", x.triangle(3, 2, 3, 0), 6);
        Check.due("and out already", x.triangle(1, 3, 3, 0), 0);
        // 1 3 1, 2 1 3, 1 3 1, 3 2 2, 3 2 2, 2 1 3: three unlike ones
        Check.due("1 3 1", x.triangle(1, 3, 1, 1), 3);
        Check.due("NONE first", x.triangle(4, 0, 0, 2), NONE);
        Check.due("NONE: b", x.triangle(1, -1, 1, 1), NONE);
        Check.due("NONE: c", x.triangle(1, 1, MAX, 1), NONE);
        Check.due("then BAD", x.triangle(0, 1, 1, 2), BAD);
        Check.due("BAD: -1", x.triangle(1, 1, 1, -1), BAD);
        Check.due("then STATE", x.triangle(0, 1, 1, 1), STATE);
        Check.due("STATE: b", x.triangle(1, 0, 1, 0), STATE);
        Check.due("STATE: c", x.triangle(1, 1, 0, 0), STATE);
        Check.nodes(x, 0, 0);
        x.begin(0);
        x.triangle(3, 3, 3, 0);
        Check.due("nodes and board stay", x.count(1) + x.board(0), 2);
    }

    private static void isIn() {
        AtomTables x = Check.table(ORDER);
        Check.due("0 2 2", x.isIn(0, 2, 2), 1);
        Check.due("0 2 1", x.isIn(0, 2, 1), 0);
        Check.due("2 0 2", x.isIn(2, 0, 2), 1);
        Check.due("1 2 0", x.isIn(1, 2, 0), 1);
        Check.due("1 1 0", x.isIn(1, 1, 0), 0);
        Check.due("1 1 1", x.isIn(1, 1, 1), 1);
        Check.due("1 1 2", x.isIn(1, 1, 2), 0);
        int[][] none = {{-1, 0, 0}, {3, 0, 0}, {0, 3, 0}, {0, 0, 3}, {0, MIN, 0}, {0, 0, MAX}};
        for (int[] t : none) Check.due("isIn of no atom", x.isIn(t[0], t[1], t[2]), NONE);
    }

    private static void compose() {
        AtomTables x = Check.table(ORDER);
        int[][] due = {{0, 7, 0}, {7, 0, 0}, {1, 6, 6}, {2, 2, 2}, {2, 4, 7}, {4, 2, 7}, {4, 4, 4}, {3, 2, 2}, {6, 6, 7}, {3, 3, 3}};
        for (int[] d : due) Check.due("compose " + d[0] + " " + d[1], x.compose(d[0], d[1]), d[2]);
        int[][] bad = {{8, 0}, {0, 8}, {-1, 0}, {0, MIN}, {MAX, 0}};
        for (int[] d : bad) Check.due("compose " + d[0] + " " + d[1], x.compose(d[0], d[1]), BAD);
        AtomTables y = Check.table("atoms 3;in 1 1 2");
        Check.due("1;1", y.compose(2, 2), 5);
        Check.due("1;2", y.compose(2, 4), 2);
        Check.due("2;2", y.compose(4, 4), 1);
    }

    private static void over() {
        AtomTables x = Check.table(ORDER);
        Check.due("all over anything", x.over(7, 6, 0), 7);
        Check.due("anything over nothing", x.over(0, 0, 1), 7);
        Check.due("nothing over 0", x.over(0, 1, 0), 0);
        Check.due("x over 0", x.over(5, 1, 0), 5);
        Check.due("z;1 within 1", x.over(2, 2, 0), 3);
        Check.due("z;2 within 1", x.over(2, 4, 0), 0);
        // 1 3 2 and its turns 1 2 3, 2 3 1, 3 1 2 ..: with 1 and 2 each other's the sides differ
        AtomTables y = Check.table("atoms 4;pair 1 2;in 1 3 3");
        // 1;3 is 3, 3;1 is 3, 3;3 is 0 1 2, 2;3 is 3, 3;2 is 3
        Check.due("z;3 within 0 1 2", y.over(7, 8, 0), 8);
        Check.due("z;3 within 3", y.over(8, 8, 0), 7);
        AtomTables z = Check.table("atoms 4;pair 1 2;in 1 3 1");
        // in: 1 3 1, 2 1 3, 3 2 2; so 1;3 is 1, 3;1 is empty, 3;2 is 2, 2;3 is empty, 2;1 is 0 3, 1;2 is 0
        Check.due("1;3", z.compose(2, 8), 2);
        Check.due("3;1", z.compose(8, 2), 0);
        Check.due("z;3 within nothing", z.over(0, 8, 0), 4);
        Check.due("3;z within nothing", z.over(0, 8, 1), 2);
        for (int bad : new int[] {-1, 16, MIN, MAX}) {
            Check.due("over: x", z.over(bad, 0, 0), BAD);
            Check.due("over: y", z.over(0, bad, 0), BAD);
            Check.due("over: side", z.over(0, 0, bad), BAD);
        }
        Check.due("over: side 2", z.over(0, 0, 2), BAD);
    }

    private static void power() {
        AtomTables x = Check.table(RING);
        // 1;1 is 0 2; then 0 2;1 is 1 and 2;1, which is 1 2: so 1 2; then 0 1 2 for ever
        int[][] due = {{0, 0, 1}, {1, 0, 1}, {2, 3, 1}, {7, 0, 1}};
        for (int[] d : due) {
            Check.due("tail of " + d[0], x.power(d[0], 0), d[1]);
            Check.due("period of " + d[0], x.power(d[0], 1), d[2]);
        }
        AtomTables z = Check.table("atoms 3;pair 1 2;in 1 1 2");
        Check.due("of three going round: tail", z.power(2, 0), 0);
        Check.due("of three going round: period", z.power(2, 1), 3);
        AtomTables two = Check.table("atoms 2");
        Check.due("there and back", two.power(2, 1), 2);
        AtomTables thin = Check.table("atoms 4;pair 1 2");
        // 1;1 is empty: 1, nothing, nothing
        Check.due("nothing at last: tail", thin.power(2, 0), 1);
        Check.due("nothing at last: period", thin.power(2, 1), 1);
        Check.due("BAD first", x.power(8, 2), BAD);
        Check.due("BAD -1", x.power(-1, 0), BAD);
        Check.due("NONE", x.power(7, 2), NONE);
        Check.due("NONE -1", x.power(0, -1), NONE);
    }

    private static void equivalence() {
        AtomTables x = Check.table("atoms 4;pair 1 2");
        // 1, 8 with 0 (3;3 is 0), and with 1 and 2 (1;1 is empty): 0; 0 1 2; 0 3; 0 1 2 3 (1;3 is empty)
        int[] due = {1, 7, 9, 15};
        Check.due("how many", x.equivalence(-1), 4);
        for (int k = 0; k < 4; k++) Check.due("equivalence " + k, x.equivalence(k), due[k]);
        for (int k : new int[] {4, -2, MIN, MAX}) Check.due("equivalence " + k, x.equivalence(k), NONE);
        x.triangle(3, 3, 1, 1);
        Check.due("less, where 3;3 is more", x.equivalence(-1), 3);
        Check.due("0 3 is none then", x.equivalence(2), 15);
    }

    private static void solved() {
        AtomTables x = Check.table(ORDER);
        Check.due("x;1 is 1", x.solved(2, 2, 0, 0), 3);
        Check.due("the least", x.solved(2, 2, 0, 1), 1);
        Check.due("together", x.solved(2, 2, 0, 2), 3);
        Check.due("none", x.solved(2, 5, 1, 0), 0);
        Check.due("none: least", x.solved(2, 5, 1, 1), NOT);
        Check.due("none: together", x.solved(2, 5, 1, 2), NOT);
        Check.due("anything with nothing", x.solved(0, 0, 0, 0), 8);
        Check.due("nothing is the least", x.solved(0, 0, 1, 1), 0);
        Check.due("all together", x.solved(0, 0, 1, 2), 7);
        AtomTables z = Check.table("atoms 4;pair 1 2;in 1 3 1");
        Check.due("x;3 is nothing", z.solved(8, 0, 0, 2), 4);
        Check.due("3;x is nothing", z.solved(8, 0, 1, 2), 2);
        Check.due("BAD: y", x.solved(8, 0, 0, 9), BAD);
        Check.due("BAD: z", x.solved(0, -1, 0, 9), BAD);
        Check.due("BAD: side", x.solved(0, 0, 2, 9), BAD);
        Check.due("BAD: side -1", x.solved(0, 0, -1, 0), BAD);
        Check.due("NONE", x.solved(0, 0, 0, 3), NONE);
        Check.due("NONE -1", x.solved(0, 0, 0, -1), NONE);
    }

    private static void broken() {
        AtomTables x = Check.table(RING);
        int[] whole = {0, NOT, 0, NOT};
        for (int what = 0; what < 4; what++) Check.due("whole: broken " + what, x.broken(what), whole[what]);
        AtomTables y = Check.table("atoms 3;pair 1 2");
        // 1;1 and 2;2 are empty, 1;2 and 2;1 are 0: (1;1);2 is empty, 1;(1;2) is 1
        Check.due("broken", y.broken(0), 4);
        Check.due("the first", y.broken(1), 112);
        Check.due("thin", y.broken(2), 2);
        Check.due("the first thin one", y.broken(3), 11);
        for (int what : new int[] {4, -1, MIN, MAX}) Check.due("broken " + what, x.broken(what), NONE);
    }

    private static void cycles() {
        AtomTables x = Check.table("atoms 4");
        int[] empty = {0, 10, 10, 0};
        for (int what = 0; what < 4; what++) Check.due("none in: cycles " + what, x.cycles(what), empty[what]);
        x.triangle(1, 1, 1, 1);
        Check.due("of one three", x.cycles(3), 1);
        x.triangle(1, 1, 2, 1);
        Check.due("of three", x.cycles(3), 3);
        x.triangle(1, 2, 3, 1);
        int[] some = {3, 10, 20, 6};
        for (int what = 0; what < 4; what++) Check.due("three in: cycles " + what, x.cycles(what), some[what]);
        x.pair(1, 2);
        Check.due("fewer can be", x.cycles(1), 7);
        for (int what : new int[] {4, -1, MIN, MAX}) Check.due("cycles " + what, x.cycles(what), NONE);
    }
}
