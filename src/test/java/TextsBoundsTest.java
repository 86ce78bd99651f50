/** Boundary cases of promises 38 to 44: texts, the image, counts; and how many calls an object is used for. */
public final class TextsBoundsTest {
    private static final int NONE = Bounds.NONE, BAD = Bounds.BAD, STATE = Bounds.STATE;
    private static final int FULL = Bounds.FULL, NOT = Bounds.NOT;
    private static final int MIN = Bounds.MIN, MAX = Bounds.MAX;
    private static final int[] FIGURES = {1, 2, 3, 3};
    private static final String[] WORDS = {"atoms", "pair", "in", "out"};
    /** One statement of each kind, all of which are done; where each begins, and where the last one ends. */
    private static final String TEXT = "atoms 4;pair 1 2;in 1 1 1;out 3 3 3";
    private static final int[] BEGINS = {0, 8, 17, 26, 36};

    public static void main(String[] args) throws Exception {
        Bounds.run(TextsBoundsTest.class, 38, 44);
    }

    /** Nothing is done of a text with a fault, and the tape is empty behind it. */
    private static void fault(String text, int place) {
        AtomTables x = new AtomTables();
        x.atoms(2);
        Check.due("read of '" + text + "'", Check.reading(x, text), -100 - place);
        Check.due("nothing is done", x.count(0), 2);
        Check.due("the tape is empty", x.wipe(), 0);
    }

    private static void done(String text, int statements) {
        AtomTables x = new AtomTables();
        Check.due("read of '" + text + "'", Check.reading(x, text), statements);
        Check.due("the tape is empty", x.wipe(), 0);
    }

    // ---- 38: A byte (32 .. 126) comes behind THE TAPE's (0 .. 100): how many it has. BAD; FULL.

    static void p38LeastAndGreatestByte() {
        AtomTables x = new AtomTables();
        for (int letter = 32; letter <= 126; letter++) Check.due("feed " + letter, x.feed(letter), letter - 31);
        for (int letter : new int[] {31, 127, 0, -1, 128, 255, 256 + 32, 65536 + 32, MIN, MAX}) {
            Check.due("feed " + letter, x.feed(letter), BAD);
            Bounds.refused("feed " + letter, Bounds::rich, y -> y.feed(letter), BAD);
        }
        Check.due("as many as were taken", x.count(2), 95);
    }

    static void p38FullAtAHundred() {
        AtomTables x = new AtomTables();
        for (int i = 1; i <= 100; i++) Check.due("feed", x.feed('z'), i);
        Check.due("one more", x.feed('z'), FULL);
        Check.due("a hundred", x.count(2), 100);
        Check.due("wiped", x.wipe(), 100);
        Check.due("the first again", x.feed('z'), 1);
        Bounds.refused("one more", Bounds::fullTape, y -> y.feed(32), FULL);
        Bounds.refused("one more, the greatest", Bounds::fullTape, y -> y.feed(126), FULL);
    }

    static void p38WhichRefusalComesFirst() {
        for (int letter : new int[] {31, 127, MIN, MAX}) {
            Bounds.refused("BAD, FULL", Bounds::fullTape, y -> y.feed(letter), BAD);
        }
    }

    // ---- 39: THE TAPE is empty: how many it had.

    static void p39EmptyOneAndFull() {
        AtomTables x = new AtomTables();
        Check.due("empty", x.wipe(), 0);
        Check.due("empty again", x.wipe(), 0);
        x.feed('a');
        Check.due("one", x.wipe(), 1);
        Check.due("none", x.count(2), 0);
        for (int i = 0; i < 100; i++) x.feed('b');
        Check.due("a hundred", x.wipe(), 100);
        Check.due("none", x.count(2), 0);
        Bounds.refused("of an empty one all stays", Bounds::quietBoard, y -> y.wipe(), 0);
    }

    static void p39NothingOfOldIsRead() {
        AtomTables x = new AtomTables();
        Bounds.feed(x, "atoms 3;in 1 1 1");
        x.wipe();
        Check.due("a shorter one", Check.reading(x, "atoms"), -105);
        Bounds.feed(x, "atoms 3;in 1 1 1");
        x.wipe();
        Check.due("one statement", Check.reading(x, "atoms 2"), 1);
        Check.due("two atoms", x.count(0), 2);
        // behind each end the byte stood that would be due
        for (int length = 0; length <= TEXT.length(); length++) {
            AtomTables fresh = new AtomTables();
            fresh.feed(32);
            fresh.read();
            Bounds.feed(fresh, TEXT);
            fresh.wipe();
            int old = Check.reading(fresh, TEXT.substring(0, length));
            Check.due("as of a new one", old, Check.reading(new AtomTables(), TEXT.substring(0, length)));
        }
    }

    // ---- 40: THE TAPE is a TEXT: how many STATEMENTS were done; -100 less the FAULT; -300 less how many ahead.

    static void p40AnEmptyTape() {
        fault("", 0);
        Bounds.refused("read", Bounds::quietBoard, x -> x.read(), -100);
    }

    static void p40OneStatementAndTwelve() {
        done("atoms 1", 1);
        done("atoms 4;in 3 3 3", 2);
        String twelve = "atoms 1;".repeat(11) + "atoms 4";
        done(twelve, 12);
        AtomTables x = new AtomTables();
        Check.due("twelve", Check.reading(x, twelve), 12);
        Check.due("the last is done", x.count(0), 4);
        String most = "pair 1 1;".repeat(11);
        x.atoms(2);
        Check.due("a hundred bytes, the last a fault", Check.reading(x, most + "i"), -199);
    }

    /** A text that ends too early: in a WORD its first byte is the FAULT, behind one the length. */
    static void p40EachEndTooEarly() {
        for (int length = 0; length <= TEXT.length(); length++) {
            int s = 0;
            while (s < 3 && BEGINS[s + 1] <= length) s++;
            int end = BEGINS[s + 1] - 1;
            String text = TEXT.substring(0, length);
            if (length == end) done(text, s + 1);
            else if (length < BEGINS[s] + WORDS[s].length()) fault(text, BEGINS[s]);
            else fault(text, length);
        }
        Check.due("the whole length", TEXT.length(), 35);
    }

    /** A byte that never stands in a text, at each place: in a WORD its first byte is the FAULT. */
    static void p40EachByteWrong() {
        for (int place = 0; place < TEXT.length(); place++) {
            int s = 0;
            while (s < 3 && BEGINS[s + 1] <= place) s++;
            int due = place < BEGINS[s] + WORDS[s].length() ? BEGINS[s] : place;
            for (char wrong : new char[] {'#', '`', '{', '/', ':', 'A', 'Z', '~', '!'}) {
                fault(TEXT.substring(0, place) + wrong + TEXT.substring(place + 1), due);
            }
        }
    }

    static void p40AWordWithALetterMoreOrLess() {
        for (int s = 0; s < 4; s++) {
            String head = TEXT.substring(0, BEGINS[s]);
            String figures = " 1".repeat(FIGURES[s]);
            for (char letter : new char[] {'a', 'z', 's'}) {
                fault(head + WORDS[s] + letter + figures, BEGINS[s]);
                fault(head + letter + WORDS[s] + figures, BEGINS[s]);
            }
            fault(head + WORDS[s].substring(1) + figures, BEGINS[s]);
            fault(head + WORDS[s].substring(0, WORDS[s].length() - 1) + figures, BEGINS[s]);
            fault(head + figures, BEGINS[s]);
            fault(head + ";" + WORDS[s] + figures, BEGINS[s]);
            fault(head + " " + WORDS[s] + figures, BEGINS[s]);
        }
    }

    static void p40AWordWithAnotherLetter() {
        for (int s = 0; s < 4; s++) {
            String head = TEXT.substring(0, BEGINS[s]);
            for (int i = 0; i < WORDS[s].length(); i++) {
                char letter = WORDS[s].charAt(i);
                for (char other : new char[] {(char) (letter - 1), (char) (letter + 1), 'a', 'z', Character.toUpperCase(letter)}) {
                    if (other == letter) continue;
                    String word = WORDS[s].substring(0, i) + other + WORDS[s].substring(i + 1);
                    fault(head + word + " 1".repeat(FIGURES[s]), BEGINS[s]);
                }
            }
        }
    }

    static void p40AFigureMoreOrLess() {
        for (int s = 0; s < 4; s++) {
            String word = TEXT.substring(0, BEGINS[s]) + WORDS[s];
            int bare = word.length();
            fault(word + " 1".repeat(FIGURES[s] - 1) + ";in 1 1 1", bare + 2 * FIGURES[s] - 2);
            fault(word + " 1".repeat(FIGURES[s] + 1), bare + 2 * FIGURES[s]);
            fault(word + " 1".repeat(FIGURES[s]) + " ", bare + 2 * FIGURES[s]);
            fault(word + " 1".repeat(FIGURES[s]) + "1", bare + 2 * FIGURES[s]);
            fault(word + " 1".repeat(FIGURES[s]) + "x", bare + 2 * FIGURES[s]);
            fault(word + " 1".repeat(FIGURES[s]) + ";", bare + 2 * FIGURES[s] + 1);
            fault(word + "  1", bare + 1);
            fault(word + "1", bare);
            fault(word + ";", bare);
            fault(word + " -1", bare + 1);
        }
    }

    static void p40FiguresNoughtToNine() {
        for (char figure = '0'; figure <= '9'; figure++) {
            boolean taken = figure >= '1' && figure <= '4';
            done("atoms " + figure, taken ? 1 : -300);
        }
        fault("atoms /", 6);
        fault("atoms :", 6);
        done("atoms 4;pair 9 1", -301);
        done("atoms 4;in 1 1 9", -301);
    }

    /** The first from the left is the one: behind it nothing is looked at. */
    static void p40TwoFaults() {
        fault("atoms x;foo", 6);
        fault("foo;atoms x", 0);
        fault("atoms 4;foo;bar", 8);
        fault("atoms 4;in 1 x 1;foo", 13);
    }

    static void p40AHundredBytes() {
        String most = "atoms 4;".repeat(11) + "pair 1 2";
        done(most, 12);
        Check.due("its length", most.length(), 96);
        fault(most + ";in", 99);
        fault(most + ";out", 100);
        fault(most + ";in ", 100);
        fault(most + ";in1", 99);
        fault(most.substring(0, 95) + "1;in", 99);
        fault(most + ";ins", 97);
        fault(most + ";;in", 97);
        fault(most + "    ", 96);
        String full = "atoms 4;" + "pair 1 2;".repeat(6) + "out 1 1 1;in 1 1 1;out 1 1 1;in 1 1 1";
        Check.due("its length", full.length(), 99);
        done(full, 11);
        fault(full + ";", 100);
        AtomTables x = new AtomTables();
        Bounds.feed(x, full + "x");
        Check.due("full", x.feed(';'), FULL);
        Check.due("the last byte", x.read(), -199);
    }

    static void p40FirstAndLastStatementRefused() {
        AtomTables x = new AtomTables();
        Check.due("the first", Check.reading(x, "atoms 5;atoms 3"), -300);
        Check.due("those behind are not done", x.count(0), 1);
        Check.due("the last of twelve", Check.reading(x, "atoms 2;".repeat(11) + "atoms 0"), -311);
        Check.due("those ahead are done", x.count(0), 2);
        Check.due("in the middle", Check.reading(x, "atoms 4;in 1 1 1;in 1 1 0;in 2 2 2"), -302);
        Check.due("one ahead is done", x.isIn(1, 1, 1), 1);
        Check.due("one behind is not", x.isIn(2, 2, 2), 0);
        Check.due("the tape is empty", x.wipe(), 0);
    }

    static void p40EachStatementRefused() {
        String[] refused = {"atoms 0", "atoms 5", "atoms 9", "pair 0 1", "pair 1 0", "pair 3 1", "pair 1 3", "in 0 1 1",
            "in 1 0 1", "in 1 2 0", "in 0 0 0", "in 3 1 1", "in 1 3 1", "in 1 1 3", "out 0 1 1", "out 1 0 1", "out 1 1 0",
            "out 3 1 1", "out 1 3 1", "out 1 1 3", "out 9 9 9"};
        for (String statement : refused) {
            AtomTables x = Check.table(Bounds.ORDER);
            Bounds.nodes(x, 0, 0);
            Check.due(statement, Check.reading(x, statement), -300);
            Check.due("nothing changes", x.count(0) * 100 + x.cycles(0) * 10 + x.count(1), 311);
        }
        for (String statement : new String[] {"atoms 1", "atoms 4", "pair 1 1", "pair 2 1", "in 2 2 1", "out 1 1 1", "out 2 2 1"}) {
            AtomTables x = Check.table(Bounds.ORDER);
            Check.due(statement, Check.reading(x, statement), 1);
        }
    }

    static void p40AFaultComesAheadOfARefusal() {
        fault("atoms 5;foo", 8);
        fault("atoms 5;", 8);
        fault("pair 0 0;in 1 1", 15);
    }

    static void p40RefusedTheTapeIsEmptyAndNothingElseChanges() {
        String[] texts = {"", "x", "atoms 3;", "atoms 1;atoms", "pair 1 1;in 1 1 1 1", "atoms 5", "pair 1 4", "in 0 1 1", "out 1 1 4"};
        for (String text : texts) {
            Bounds.alike("read of '" + text + "'", x -> {
                Bounds.rich(x);
                x.wipe();
                Bounds.feed(x, text);
                Check.holds("refused", x.read() < 0);
            }, x -> {
                Bounds.rich(x);
                x.wipe();
            });
        }
    }

    static void p40DoneAsTheCallsWould() {
        Bounds.alike("a text and its calls", x -> {
            Bounds.rich(x);
            x.wipe();
            Check.due("read", Check.reading(x, "in 3 3 1;out 1 1 1"), 2);
        }, x -> {
            Bounds.rich(x);
            x.wipe();
            x.triangle(3, 3, 1, 1);
            x.triangle(1, 1, 1, 0);
        });
        Bounds.alike("a text that clears, and its calls", x -> {
            Bounds.rich(x);
            x.wipe();
            Check.due("read", Check.reading(x, "pair 3 3;atoms 5"), -301);
        }, x -> {
            Bounds.rich(x);
            x.wipe();
            x.pair(3, 3);
        });
    }

    // ---- 41: Byte i of SPELLED; i -1: how many. NONE.

    private static void spelled(AtomTables x, String due) {
        Check.due("how many", x.spelled(-1), due.length());
        for (int i = 0; i < due.length(); i++) Check.due("byte " + i, x.spelled(i), due.charAt(i));
        for (int i : new int[] {due.length(), due.length() + 1, 100, -2, MIN, MAX}) Check.due("no byte " + i, x.spelled(i), NONE);
    }

    static void p41ShortestAndLongest() {
        for (int n = 1; n <= 4; n++) {
            AtomTables x = new AtomTables();
            x.atoms(n);
            spelled(x, "atoms " + n);
        }
        AtomTables x = new AtomTables();
        x.atoms(4);
        for (int t = 0; t < 27; t++) x.triangle(t / 9 + 1, t / 3 % 3 + 1, t % 3 + 1, 1);
        spelled(x, "atoms 4;in 1 1 1;in 1 1 2;in 1 1 3;in 1 2 2;in 1 2 3;in 1 3 3;in 2 2 2;in 2 2 3;in 2 3 3;in 3 3 3");
        x.pair(2, 3);
        for (int t = 0; t < 27; t++) x.triangle(t / 9 + 1, t / 3 % 3 + 1, t % 3 + 1, 1);
        // with 2 and 3 each other's: 1 2 2 goes with 2 3 1 and 3 1 3; 1 3 3 with 3 2 1 and 2 1 2
        spelled(x, "atoms 4;pair 2 3;in 1 1 1;in 1 1 2;in 1 2 2;in 1 2 3;in 1 3 3;in 2 2 2;in 2 2 3");
    }

    static void p41EachPair() {
        for (int[] p : new int[][] {{1, 2}, {2, 1}, {1, 3}, {3, 1}, {2, 3}, {3, 2}}) {
            AtomTables x = new AtomTables();
            x.atoms(4);
            x.pair(p[0], p[1]);
            spelled(x, "atoms 4;pair " + Math.min(p[0], p[1]) + " " + Math.max(p[0], p[1]));
        }
    }

    static void p41RefusedNothingChanges() {
        for (int i : new int[] {-2, 100, MIN, MAX}) Bounds.refused("spelled " + i, Bounds::rich, x -> x.spelled(i), NONE);
        Bounds.refused("behind the last", Bounds::fresh, x -> x.spelled(7), NONE);
        Bounds.refused("the tape is another one", Bounds::rich, x -> x.spelled(0), 'a');
    }

    // ---- 42: THE IMAGE is taken: how many ATOMS.

    static void p42FewestAndMostAtoms() {
        AtomTables x = new AtomTables();
        Check.due("one", x.image(), 1);
        x.atoms(4);
        Check.due("four", x.image(), 4);
        Check.due("four again", x.image(), 4);
        x.atoms(1);
        Check.due("as the last one", x.undo(), 4);
    }

    static void p42NothingElseChanges() {
        Bounds.alike("a second image of the same", x -> {
            Bounds.rich(x);
            x.undo();
            x.image();
        }, x -> {
            Bounds.rich(x);
            x.undo();
        });
        AtomTables x = new AtomTables();
        Bounds.rich(x);
        int asks = x.board(1);
        x.image();
        Check.due("asks", x.board(1), asks);
        Check.due("answered", x.board(2), 1);
        Check.due("the tape", x.count(2), 16);
        Check.due("lists", x.count(3), 2);
        Check.due("forbidden", x.count(4), 2);
    }

    static void p42WithoutAnythingAndWithAll() {
        AtomTables x = new AtomTables();
        x.image();
        x.atoms(4);
        Bounds.six(x, 0);
        Bounds.six(x, 1);
        Bounds.six(x, 2);
        x.forbid(2);
        x.image();
        x.atoms(1);
        Check.due("all nodes", x.undo() * 100 + x.count(1), 418);
        Check.due("what is forbidden", x.count(4), 6);
        Check.due("the last label", x.label(2, 4, 5), 1);
        Check.due("full", x.node(2, 111111), FULL);
    }

    // ---- 43: All is as THE IMAGE: how many ATOMS. STATE: there is none.

    static void p43ThereIsNone() {
        Bounds.refused("undo", Bounds::fresh, x -> x.undo(), STATE);
        Bounds.refused("undo, and a board stays", Bounds::quietBoard, x -> x.undo(), STATE);
        Bounds.refused("undo, and a full board stays", Bounds::fullBoard, x -> x.undo(), STATE);
    }

    static void p43OfANewObject() {
        AtomTables x = new AtomTables();
        x.image();
        x.atoms(4);
        x.pair(1, 2);
        x.triangle(1, 1, 1, 1);
        Bounds.six(x, 1);
        x.forbid(1);
        Check.due("undo", x.undo(), 1);
        Check.due("no nodes", x.count(1), 0);
        Check.due("none forbidden", x.forbid(-1), NOT);
        Check.due("one three", x.cycles(2), 1);
        x.atoms(4);
        Check.due("own converses", x.converse(2), 2);
    }

    static void p43AgainAndAgain() {
        AtomTables x = new AtomTables();
        Bounds.rich(x);
        for (int turn = 0; turn < 3; turn++) {
            Check.due("undo", x.undo(), 4);
            Check.due("nodes", x.count(1), 5);
            Check.due("threes", x.cycles(2), 17);
            Check.due("a label", x.label(2, 0, 1), 3);
            Check.due("forbidden", x.count(4), 2);
            x.relabel(2, 0, 1, 1);
            x.forbid(-1);
            x.triangle(1, 1, 1, 0);
            if (turn == 1) x.atoms(2);
        }
    }

    static void p43Converses() {
        AtomTables x = Check.table("atoms 4;pair 1 2");
        x.image();
        x.pair(2, 3);
        Check.due("undo", x.undo(), 4);
        Check.due("1 is 2's", x.converse(2), 4);
        Check.due("2 is 1's", x.converse(4), 2);
        Check.due("3 is its own", x.converse(8), 8);
        x.pair(1, 1);
        x.image();
        x.pair(1, 3);
        x.undo();
        for (int a = 0; a < 4; a++) Check.due("its own", x.converse(1 << a), 1 << a);
    }

    static void p43ForbiddenNoneWithoutNodesAndAnother() {
        AtomTables x = Check.table(Bounds.LOOSE);
        Bounds.nodes(x, 0, 0, 1);
        Bounds.nodes(x, 1, 0, 2);
        x.image();
        x.forbid(0);
        x.undo();
        Check.due("none", x.forbid(0), NOT);
        x.image();
        x.forbid(1);
        x.undo();
        Check.due("1, not 2", x.begin(0), STATE);
        Check.due("1, not 2", x.begin(1) >= 0 ? 1 : 0, 1);
        x.forbid(2);
        x.image();
        x.forbid(1);
        x.undo();
        Check.due("without nodes", x.forbid(1), 0);
        x.image();
        x.forbid(-1);
        x.undo();
        Check.due("it is there", x.begin(1), STATE);
        Check.due("with its nodes", x.forbid(-1), 2);
    }

    static void p43TheBoardIsNone() {
        AtomTables x = new AtomTables();
        Bounds.rich(x);
        x.image();
        Check.due("a board", x.board(0), 4);
        Check.due("undo", x.undo(), 4);
        Check.due("none", x.board(0), STATE);
        Check.due("no asks", x.ask(0), STATE);
        Check.due("nothing to answer", x.answer(0), STATE);
        Check.due("nothing later", x.later(), STATE);
        Check.due("nothing to take", x.take(0), STATE);
        Check.due("nodes stay", x.count(1), 12);
    }

    static void p43ListsAndTapeStay() {
        AtomTables x = new AtomTables();
        Bounds.list(x, 0, 5);
        x.feed('a');
        x.image();
        x.put(0, 0, 6);
        x.list(1, 0);
        x.feed('b');
        Check.due("undo", x.undo(), 1);
        Check.due("a long", x.get(0, 0), 6);
        Check.due("lists", x.count(3), 2);
        Check.due("the tape", x.count(2), 2);
        x.list(0, -1);
        x.wipe();
        x.undo();
        Check.due("missing", x.get(0, 0), Bounds.VOID);
        Check.due("empty", x.count(2), 0);
    }

    // ---- 44: 0 ATOMS, 1 NODES of all NETWORKS, 2 bytes of THE TAPE, 3 LISTS there, 4 NODES of FORBIDDEN. NONE.

    static void p44LeastAndMost() {
        AtomTables x = new AtomTables();
        int[] least = {1, 0, 0, 0, 0};
        for (int what = 0; what < 5; what++) Check.due("least: count " + what, x.count(what), least[what]);
        x.atoms(4);
        for (int net = 0; net < 3; net++) Bounds.six(x, net);
        x.forbid(2);
        for (int list = 0; list < 3; list++) x.list(list, list * 6);
        for (int i = 0; i < 100; i++) x.feed(32);
        int[] most = {4, 18, 100, 3, 6};
        for (int what = 0; what < 5; what++) Check.due("most: count " + what, x.count(what), most[what]);
    }

    static void p44ForbiddenNoneAndWithoutNodes() {
        AtomTables x = new AtomTables();
        Check.due("none", x.count(4), 0);
        x.forbid(0);
        Check.due("without nodes", x.count(4), 0);
        x.node(0, 0);
        x.forbid(0);
        Check.due("one", x.count(4), 1);
        x.forbid(-1);
        Check.due("none", x.count(4), 0);
    }

    static void p44NoSuchWhat() {
        for (int what : new int[] {-1, 5, 6, MIN, MAX}) {
            Bounds.refused("count " + what, Bounds::rich, x -> x.count(what), NONE);
            Bounds.refused("count " + what + " of a new one", Bounds::fresh, x -> x.count(what), NONE);
        }
    }

    /** An object is used for at most 512 calls: the last of them is answered as the first. */
    static void p44AllOfAnObjectsCalls() {
        AtomTables x = new AtomTables();
        int calls = 0;
        x.atoms(2);
        x.triangle(1, 1, 1, 1);
        x.node(0, 0);
        calls += 3;
        for (int turn = 0; calls + 8 < Bounds.CALLS; turn++) {
            Check.due("begin", x.begin(0), 1);
            Check.due("answer", x.answer(1), 1);
            Check.due("later", x.later(), 1);
            Check.due("image", x.image(), 2);
            Check.due("undo", x.undo(), 2);
            Check.due("won", x.won(0, 2), 1);
            Check.due("found", x.found(turn % 3), 3);
            Check.due("feed", x.feed(32), turn % 100 + 1);
            calls += 8;
        }
        while (calls < Bounds.CALLS - 1) {
            Check.due("a call more", x.count(3), 3);
            calls++;
        }
        Check.due("the last", x.spelled(-1), 16);
    }
}
