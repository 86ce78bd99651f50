/** Promises 38 to 44: texts, the image, counts. */
public final class TextsTest {
    private static final int NONE = AtomTables.NONE, BAD = AtomTables.BAD, STATE = AtomTables.STATE;
    private static final int FULL = AtomTables.FULL, NOT = AtomTables.NOT;
    private static final int MIN = Integer.MIN_VALUE, MAX = Integer.MAX_VALUE;

    public static void main(String[] args) {
        feed();
        wipe();
        read();
        faults();
        refusedStatements();
        spelled();
        image();
        undo();
        count();
        Check.end("TextsTest");
    }

    private static void feed() {
        AtomTables x = new AtomTables();
        for (int letter : new int[] {31, 127, -1, 0, 256 + 65, MIN, MAX}) Check.due("feed " + letter, x.feed(letter), BAD);
        for (int i = 1; i <= 100; i++) Check.due("feed", x.feed(i % 2 == 0 ? 32 : 126), i);
        Check.due("FULL", x.feed(65), FULL);
        Check.due("BAD ahead of FULL", x.feed(127), BAD);
        Check.due("100 it has", x.count(2), 100);
    }

    private static void wipe() {
        AtomTables x = new AtomTables();
        Check.due("nothing there", x.wipe(), 0);
        x.feed('a');
        x.feed('b');
        Check.due("two", x.wipe(), 2);
        Check.due("empty", x.count(2), 0);
        Check.due("the first again", x.feed('i'), 1);
        Check.due("and nothing of old ahead of it", x.read(), -100);
    }

    private static void read() {
        AtomTables x = new AtomTables();
        Check.due("read", Check.reading(x, "atoms 4;pair 3 2;in 1 1 1;in 2 2 2;out 1 1 1"), 5);
        Check.due("empty behind it", x.count(2), 0);
        Check.due("atoms", x.count(0), 4);
        Check.due("pair", x.converse(4), 8);
        Check.due("in", x.isIn(3, 3, 3), 1);
        Check.due("out", x.isIn(1, 1, 1), 0);
        Check.nodes(x, 0, 0);
        Check.due("in 1 1 2", Check.reading(x, "in 1 1 2"), 1);
        Check.due("as triangle()", x.isIn(1, 1, 2) + x.count(1), 2);
        Check.due("what is in already", Check.reading(x, "in 1 1 2"), 1);
        Check.due("pair anew", Check.reading(x, "pair 1 1"), 1);
        Check.due("as pair()", x.isIn(1, 1, 2) + x.count(1), 0);
        String most = "atoms 4;atoms 4;atoms 4;atoms 4;atoms 4;atoms 4;atoms 4;atoms 4;atoms 4;atoms 4;atoms 4;atoms 2";
        Check.due("twelve", Check.reading(x, most), 12);
        Check.due("the last", x.count(0), 2);
    }

    private static void fault(String text, int place) {
        AtomTables x = new AtomTables();
        Check.due("read of '" + text + "'", Check.reading(x, text), -100 - place);
        Check.due("nothing is done", x.count(0), 1);
        Check.due("the tape is empty", x.count(2), 0);
    }

    private static void faults() {
        fault("", 0);
        fault(" atoms 3", 0);
        fault(";", 0);
        fault("3", 0);
        fault("atom 3", 0);
        fault("atomss 3", 0);
        fault("ATOMS 3", 0);
        fault("etoms 3", 0);
        fault("lair 1 1", 0);
        fault("on 1 1 1", 0);
        fault("put 1 1 1", 0);
        fault("atomt 3", 0);
        fault("inz 1 1 1", 0);
        fault("ain 1 1 1", 0);
        fault("atoms", 5);
        fault("atoms ", 6);
        fault("atoms3", 5);
        fault("atoms;in", 5);
        fault("atoms  3", 6);
        fault("atoms x", 6);
        fault("atoms 33", 7);
        fault("atoms 3 ", 7);
        fault("atoms 3 3", 7);
        fault("atoms 3,", 7);
        fault("atoms 3;", 8);
        fault("atoms 3;;in 1 1 1", 8);
        fault("atoms 3; in 1 1 1", 8);
        fault("atoms 3;into 1 1 1", 8);
        fault("atoms 3;pair 1", 14);
        fault("atoms 3;pair 1 ", 15);
        fault("atoms 3;pair 1;in 1 1 1", 14);
        fault("atoms 3;pair 1 2 3", 16);
        fault("atoms 3;in 1 1", 14);
        fault("atoms 3;out 1 1 /", 16);
        fault("atoms 3;out 1 1 :", 16);
        fault("atoms 3;out 1 1 1x", 17);
        fault("atoms x;foo", 6);
        fault("atoms {", 6);
        fault("atoms`3", 5);
        // a hundred bytes, the last one wrong
        String long99 = "atoms 4;in 1 1 1;in 1 1 2;in 1 1 3;in 1 2 2;in 1 2 3;in 1 3 3;in 2 2 2;in 2 2 3;in 2 3 3;out 3 3 3;";
        fault(long99.substring(0, 99), 99);
        Check.due("its length", long99.length(), 99);
        fault(long99 + "x", 99);
        fault(long99 + ";", 99);
    }

    private static void refusedStatements() {
        AtomTables x = new AtomTables();
        Check.due("atoms 5", Check.reading(x, "atoms 5"), -300);
        Check.due("atoms 9", Check.reading(x, "atoms 9"), -300);
        Check.due("atoms 0", Check.reading(x, "atoms 0;atoms 3"), -300);
        Check.due("nothing done", x.count(0), 1);
        Check.due("pair 0 1", Check.reading(x, "atoms 3;pair 0 1;in 1 1 1"), -301);
        Check.due("the one ahead is done", x.count(0), 3);
        Check.due("the one behind is not", x.cycles(0), 0);
        Check.due("the tape is empty", x.count(2), 0);
        Check.due("a fixed three", Check.reading(x, "in 1 1 1;in 2 2 2;in 0 1 1"), -302);
        Check.due("two are in", x.cycles(0), 2);
        Check.due("a fixed three out", Check.reading(x, "out 1 1 0"), -300);
        Check.due("no such atom", Check.reading(x, "out 1 1 1;in 1 1 3"), -301);
        Check.due("one is in", x.cycles(0), 1);
        Check.due("a fault is found first", Check.reading(x, "atoms 5;foo"), -108);
    }

    private static void spelling(String told, String due) {
        AtomTables x = new AtomTables();
        Check.due("read of " + told, Check.reading(x, told) > 0 ? 1 : 0, 1);
        String got = Check.spelling(x);
        Check.holds(told + " is spelled " + due + ", not " + got, got.equals(due));
        AtomTables y = new AtomTables();
        Check.due("read again", Check.reading(y, got) > 0 ? 1 : 0, 1);
        Check.holds("spelled alike", Check.spelling(y).equals(due));
    }

    private static void spelled() {
        spelling("atoms 1", "atoms 1");
        spelling("atoms 4", "atoms 4");
        spelling("atoms 3;pair 2 1;in 2 2 2", "atoms 3;pair 1 2;in 1 1 1");
        // 3 2 1 with 1' = 3: 3 2 1, 1 1 2, 1 2 3, 2 1 3, 2 3 1, 3 3 2: the least is 1 1 2
        spelling("atoms 4;pair 3 1;in 3 3 3;in 2 2 2;in 3 2 1", "atoms 4;pair 1 3;in 1 1 1;in 1 1 2;in 2 2 2");
        spelling("atoms 4;in 3 2 1;in 3 1 3;in 2 1 2;in 1 1 1;out 2 2 1", "atoms 4;in 1 1 1;in 1 2 3;in 1 3 3");
        AtomTables x = new AtomTables();
        x.atoms(4);
        for (int a = 1; a < 4; a++) for (int b = 1; b < 4; b++) for (int c = 1; c < 4; c++) x.triangle(a, b, c, 1);
        Check.due("the longest", x.spelled(-1), 97);
        Check.due("its last byte", x.spelled(96), '3');
        for (int i : new int[] {97, 100, -2, MIN, MAX}) Check.due("spelled " + i, x.spelled(i), NONE);
    }

    private static void image() {
        AtomTables x = new AtomTables();
        Check.due("image", x.image(), 1);
        x.atoms(3);
        Check.due("image", x.image(), 3);
        Check.nodes(x, 0, 0);
        x.begin(0);
        Check.due("image", x.image(), 3);
        Check.due("the board stays", x.board(0), 1);
        x.atoms(2);
        Check.due("the last image is the one", x.undo(), 3);
        Check.due("with its node", x.count(1), 1);
    }

    private static void undo() {
        AtomTables x = new AtomTables();
        Check.due("there is none", x.undo(), STATE);
        Check.reading(x, "atoms 4;pair 1 2;in 1 1 1");
        Check.nodes(x, 0, 0, 1, 11);
        Check.nodes(x, 2, 0, 3);
        x.forbid(2);
        x.image();
        x.list(0, 1);
        x.put(0, 0, 9);
        x.feed('z');
        x.begin(0);
        x.relabel(0, 0, 1, 3);
        x.drop(2);
        x.node(1, 0);
        x.forbid(1);
        x.triangle(1, 1, 1, 0);
        x.triangle(3, 3, 3, 1);
        Check.due("undo", x.undo(), 4);
        checkUndone(x);
        Check.due("a list is no part of it", x.get(0, 0), 9);
        Check.due("nor is the tape", x.count(2), 1);
        x.forbid(-1);
        x.undo();
        checkUndone(x);
        x.atoms(2);
        Check.due("undo again", x.undo(), 4);
        checkUndone(x);
        x.begin(1);
        Check.due("undo leaves the board none", x.undo() * 10 + x.board(0), 37);
        x.relabel(0, 0, 1, 2);
        x.undo();
        checkUndone(x);
    }

    private static void checkUndone(AtomTables x) {
        Check.due("atoms", x.count(0), 4);
        Check.due("converses", x.converse(2), 4);
        Check.due("threes", x.isIn(1, 1, 1) * 10 + x.isIn(3, 3, 3), 10);
        Check.due("a label", x.label(0, 0, 1), 1);
        Check.due("nodes", x.count(1), 5);
        Check.due("nodes of 2", x.label(2, 1, 0), 3);
        Check.due("forbidden", x.count(4), 2);
        Check.due("what is forbidden", x.begin(2), STATE);
        Check.due("what is not", x.won(0, 0), 1);
        Check.due("no board", x.board(0), STATE);
    }

    private static void count() {
        AtomTables x = new AtomTables();
        x.atoms(3);
        Check.nodes(x, 0, 0, 1);
        Check.nodes(x, 1, 0);
        Check.nodes(x, 2, 0, 2, 12);
        x.feed(32);
        x.list(0, 0);
        x.list(2, 3);
        x.forbid(2);
        int[] due = {3, 6, 1, 2, 3};
        for (int what = 0; what < 5; what++) Check.due("count " + what, x.count(what), due[what]);
        for (int what : new int[] {5, -1, MIN, MAX}) Check.due("count " + what, x.count(what), NONE);
        x.drop(1);
        x.forbid(1);
        Check.due("forbidden without nodes", x.count(4), 0);
        Check.due("it is there", x.forbid(-1), 0);
        Check.due("now none", x.forbid(-1), NOT);
        Check.due("feed", x.feed(31), BAD);
    }
}
