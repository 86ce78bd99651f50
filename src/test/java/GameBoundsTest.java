/** Boundary cases of promises 24 to 32: the game, played to its end and by hand. */
public final class GameBoundsTest {
    private static final int NONE = Bounds.NONE, BAD = Bounds.BAD, STATE = Bounds.STATE;
    private static final int FULL = Bounds.FULL, NOT = Bounds.NOT;
    private static final int MIN = Bounds.MIN, MAX = Bounds.MAX;

    public static void main(String[] args) throws Exception {
        Bounds.run(GameBoundsTest.class, 24, 32);
    }

    /** What lasts() and, for each number of rounds, won() and killer() answer. */
    private static void lasting(AtomTables x, int net, int rounds, int killer) {
        for (int r = 0; r <= 2; r++) {
            Check.due("won in " + r, x.won(net, r), r <= rounds ? 1 : 0);
            Check.due("killer in " + r, x.killer(net, r), r <= rounds ? NOT : killer);
        }
        Check.due("lasts", x.lasts(net), rounds);
    }

    private static void noGame(AtomTables x, int net) {
        for (int r = 0; r <= 2; r++) {
            Check.due("won in " + r, x.won(net, r), STATE);
            Check.due("killer in " + r, x.killer(net, r), STATE);
        }
        Check.due("lasts", x.lasts(net), STATE);
    }

    /** Networks of four nodes (0), with a three of nodes at odds (1), with what is forbidden in it (2). */
    private static void unplayable(AtomTables x) {
        x.atoms(3);
        x.pair(1, 2);
        x.triangle(1, 1, 1, 1);
        Bounds.nodes(x, 0, 0, 1, 11, 111);
        Bounds.nodes(x, 1, 0, 1, 12);
        Check.due("at odds", x.sound(1), 12);
        Bounds.nodes(x, 2, 0, 1);
        Check.due("begin", x.begin(2), 5);
        Check.due("forbid", x.forbid(2), NOT);
    }

    /** Six nodes without a gap. */
    private static void fullQuietBoard(AtomTables x) {
        x.atoms(2);
        x.triangle(1, 1, 1, 1);
        Bounds.six(x, 0);
        Check.due("no asks", x.begin(0), 0);
    }

    /** A board without nodes. */
    private static void emptyBoard(AtomTables x) {
        x.atoms(2);
        Check.due("no asks", x.begin(0), 0);
    }

    /** Two nodes and five asks, the first 21. */
    private static void askingBoard(AtomTables x) {
        x.atoms(3);
        x.pair(1, 2);
        x.triangle(1, 1, 1, 1);
        Bounds.nodes(x, 0, 0, 1);
        Check.due("asks", x.begin(0), 5);
    }

    private static void asks(AtomTables x, int... due) {
        Check.due("how many", x.board(1), due.length);
        for (int k = 0; k < due.length; k++) Check.due("ask " + k, x.ask(k), due[k]);
        for (int k : new int[] {due.length, -1, MIN, MAX}) Check.due("no ask " + k, x.ask(k), NONE);
    }

    // ---- 24: WON: 1, 0. NONE: net; BAD: r; STATE: not SOUND, FORBIDDEN OCCURS in it, more than 3 NODES.

    static void p24WithoutNodes() {
        for (int n = 1; n <= 4; n++) {
            AtomTables x = new AtomTables();
            x.atoms(n);
            lasting(x, 0, 2, 0);
            lasting(x, 2, 2, 0);
        }
    }

    static void p24WithoutAGap() {
        AtomTables x = new AtomTables();
        Bounds.nodes(x, 0, 0);
        lasting(x, 0, 2, 0);
        AtomTables y = Check.table(Bounds.CLIQUE);
        Bounds.nodes(y, 1, 0, 1, 11);
        Check.due("no gap", y.gap(1, -1), 0);
        lasting(y, 1, 2, 0);
    }

    /** The first player asks in vain behind r rounds: what can't be filled costs nothing without a round. */
    static void p24WithoutRounds() {
        AtomTables x = Check.table("atoms 3;in 1 1 1;in 2 2 2");
        Bounds.nodes(x, 0, 0, 1);
        Check.due("a gap that nothing fills", x.fills(0, 22, -1), 0);
        Check.due("no round", x.won(0, 0), 1);
        Check.due("one round", x.won(0, 1), 0);
        Check.due("two rounds", x.won(0, 2), 0);
    }

    static void p24RoundsNoughtToTwo() {
        for (int r : new int[] {-1, 3, -2, 4, MIN, MAX}) {
            Bounds.refused("won in " + r, Bounds::rich, x -> x.won(0, r), BAD);
            Bounds.refused("won in " + r + " without nodes", Bounds::fresh, x -> x.won(0, r), BAD);
        }
    }

    static void p24ThreeNodesNotFour() {
        AtomTables x = Check.table(Bounds.CLIQUE);
        for (int m = 0; m < 6; m++) {
            if (m <= 3) lasting(x, 0, 2, 0);
            else noGame(x, 0);
            x.node(0, Integer.parseInt("0" + "1".repeat(m)));
        }
        noGame(x, 0);
        Bounds.refused("six nodes", Bounds::rich, y -> y.won(1, 0), STATE);
        Bounds.refused("four nodes", GameBoundsTest::unplayable, y -> y.won(0, 0), STATE);
    }

    static void p24NotSound() {
        AtomTables x = Check.table(Bounds.ORDER);
        Bounds.nodes(x, 0, 0, 1, 12);
        noGame(x, 0);
        x.triangle(1, 1, 2, 1);
        Check.due("sound", x.won(0, 0), 1);
        Bounds.refused("not sound", GameBoundsTest::unplayable, y -> y.won(1, 2), STATE);
    }

    static void p24ForbiddenOccurs() {
        AtomTables x = Check.table(Bounds.CLIQUE);
        Bounds.nodes(x, 0, 0);
        Bounds.nodes(x, 1, 0, 1);
        x.forbid(1);
        noGame(x, 1);
        Check.due("one node alone", x.won(0, 0), 1);
        x.forbid(0);
        noGame(x, 0);
        noGame(x, 1);
        lasting(x, 2, 2, 0);
        x.forbid(2);
        lasting(x, 0, 2, 0);
        x.forbid(-1);
        lasting(x, 1, 2, 0);
        Bounds.refused("forbidden", GameBoundsTest::unplayable, y -> y.won(2, 0), STATE);
    }

    static void p24WhichRefusalComesFirst() {
        for (int net : Bounds.OUTSIDE) {
            Bounds.refused("NONE", GameBoundsTest::unplayable, x -> x.won(net, 0), NONE);
            Bounds.refused("NONE, BAD", GameBoundsTest::unplayable, x -> x.won(net, 3), NONE);
        }
        for (int net = 0; net < 3; net++) {
            int odd = net;
            Bounds.refused("BAD, STATE", GameBoundsTest::unplayable, x -> x.won(odd, 3), BAD);
            Bounds.refused("BAD, STATE, below", GameBoundsTest::unplayable, x -> x.won(odd, -1), BAD);
            Bounds.refused("STATE", GameBoundsTest::unplayable, x -> x.won(odd, 1), STATE);
        }
    }

    static void p24NothingIsPut() {
        Bounds.refused("won", Bounds::rich, x -> x.won(0, 2), 0);
        Bounds.refused("won in no round", Bounds::rich, x -> x.won(0, 0), 1);
    }

    // ---- 25: KILLER; NOT: there is none. Refused as won().

    static void p25FirstOfSeveralAndALaterOne() {
        AtomTables x = Check.table(Bounds.LOOSE);
        Bounds.nodes(x, 0, 0);
        Bounds.nodes(x, 1, 0, 2);
        x.forbid(1);
        // 11 is filled, 22 is not
        Check.due("the second gap", x.killer(0, 1), 22);
        x.relabel(1, 0, 1, 1);
        x.forbid(1);
        Check.due("the first gap", x.killer(0, 1), 11);
        x.drop(1);
        x.forbid(1);
        noGame(x, 0);
        x.drop(1);
        x.forbid(1);
        Check.due("none", x.killer(0, 1), NOT);
        AtomTables y = Check.table("atoms 3;in 1 1 1;in 1 1 2;in 1 2 2");
        Bounds.nodes(y, 0, 0, 2, 12);
        Bounds.nodes(y, 1, 0, 1, 11);
        y.forbid(1);
        // 0 and 2 have 1 between them and, by 1 and 1, would have three ones
        Check.due("sound", y.sound(0), NOT);
        Check.due("the first that nothing fills", y.killer(0, 1), firstEmpty(y, 0));
    }

    /** All gaps but the last can be filled: 1;3 is empty, so node 1 gets no node by 3. */
    static void p25TheLastOfAll() {
        AtomTables x = Check.table("atoms 4;pair 1 2;in 1 1 1;in 1 2 3");
        Bounds.nodes(x, 0, 0, 1);
        Check.due("gaps", x.gap(0, -1), 8);
        Check.due("the last", x.gap(0, 7), 1133);
        for (int k = 0; k < 7; k++) Check.due("it can be filled", x.fills(0, x.gap(0, k), -1) > 0 ? 1 : 0, 1);
        Check.due("killer", x.killer(0, 1), 1133);
        // a game of three nodes, lost by other gaps, leaves nothing behind
        Bounds.nodes(x, 1, 0, 1, 11);
        Bounds.nodes(x, 2, 0, 3);
        x.forbid(2);
        Check.due("killer of three", x.killer(1, 1), 33);
        x.forbid(-1);
        Check.due("killer again", x.killer(0, 1), 1133);
    }

    /** The first gap without a way to fill it. */
    private static int firstEmpty(AtomTables x, int net) {
        int k = 0;
        while (k < 200 && x.gap(net, k) >= 0 && x.fills(net, x.gap(net, k), -1) > 0) k++;
        return x.gap(net, k);
    }

    static void p25InNoRoundThereIsNone() {
        AtomTables x = Check.table("atoms 3;in 1 1 1;in 2 2 2");
        Bounds.nodes(x, 0, 0, 1);
        Check.due("no round", x.killer(0, 0), NOT);
        Check.due("one round", x.killer(0, 1), 22);
        Check.due("two rounds", x.killer(0, 2), 22);
        Check.due("without nodes", x.killer(1, 2), NOT);
    }

    static void p25RefusedAsWon() {
        for (int r : new int[] {-1, 3, MIN, MAX}) {
            Bounds.refused("killer in " + r, Bounds::rich, x -> x.killer(0, r), BAD);
            Bounds.refused("BAD, STATE", GameBoundsTest::unplayable, x -> x.killer(0, r), BAD);
            Bounds.refused("NONE, BAD", Bounds::rich, x -> x.killer(3, r), NONE);
        }
        for (int net : Bounds.OUTSIDE) Bounds.refused("killer of " + net, Bounds::rich, x -> x.killer(net, 1), NONE);
        for (int net = 0; net < 3; net++) {
            int odd = net;
            for (int r = 0; r <= 2; r++) {
                int rounds = r;
                Bounds.refused("STATE", GameBoundsTest::unplayable, x -> x.killer(odd, rounds), STATE);
            }
        }
        Bounds.refused("killer", Bounds::rich, x -> x.killer(0, 0), NOT);
    }

    // ---- 26: LASTS: the most ROUNDS (0 .. 2). NONE; STATE as of won().

    static void p26NoneOneAndTwo() {
        AtomTables x = Check.table(Bounds.CLIQUE);
        Bounds.nodes(x, 0, 0);
        Bounds.nodes(x, 1, 0, 1);
        Bounds.nodes(x, 2, 0, 1, 11);
        lasting(x, 0, 2, 0);
        x.forbid(2);
        lasting(x, 0, 1, 11);
        lasting(x, 1, 0, 111);
        x.forbid(1);
        lasting(x, 0, 0, 11);
    }

    static void p26Refused() {
        for (int net : Bounds.OUTSIDE) Bounds.refused("lasts of " + net, Bounds::rich, x -> x.lasts(net), NONE);
        for (int net = 0; net < 3; net++) {
            int odd = net;
            Bounds.refused("STATE", GameBoundsTest::unplayable, x -> x.lasts(odd), STATE);
        }
        Bounds.refused("lasts", Bounds::rich, x -> x.lasts(0), 0);
    }

    // ---- 27: THE BOARD is made: how many ASKS. NONE; STATE: not SOUND, FORBIDDEN OCCURS in it.

    static void p27WithoutNodesAndWithSix() {
        AtomTables x = new AtomTables();
        Check.due("without nodes", x.begin(0), 0);
        Check.due("there is a board", x.board(0), 0);
        asks(x);
        AtomTables y = Check.table(Bounds.LOOSE);
        for (int m = 0; m <= 6; m++) {
            Check.due("asks are its gaps", y.begin(0), y.gap(0, -1));
            Check.due("nodes", y.board(0), m);
            y.node(0, Integer.parseInt("0" + "1".repeat(m)));
        }
        Check.due("the first", y.ask(0), 22);
        Check.due("the last", y.ask(50), 5522);
        Check.due("behind it", y.ask(51), NONE);
    }

    static void p27TheMostAsks() {
        AtomTables x = new AtomTables();
        x.atoms(4);
        for (int t = 0; t < 27; t++) x.triangle(t / 9 + 1, t / 3 % 3 + 1, t % 3 + 1, 1);
        Bounds.six(x, 0);
        // each to itself by 2 2 and 3 3; each two by all nine but 1 1
        Check.due("asks", x.begin(0), 6 * 2 + 15 * 8);
        for (int k = 0; k < 132; k++) Check.due("ask " + k, x.ask(k), x.gap(0, k));
        Check.due("the last", x.ask(131), 5533);
        Check.due("behind it", x.ask(132), NONE);
    }

    static void p27RefusedTheOldOneStays() {
        for (int net : Bounds.OUTSIDE) Bounds.refused("begin of " + net, Bounds::rich, x -> x.begin(net), NONE);
        Bounds.refused("not sound", Bounds::rich, x -> x.begin(2), STATE);
        Bounds.refused("not sound, forbidden", GameBoundsTest::unplayable, x -> x.begin(1), STATE);
        Bounds.refused("forbidden", GameBoundsTest::unplayable, x -> x.begin(2), STATE);
        Bounds.refused("forbidden in four nodes", GameBoundsTest::unplayable, x -> x.begin(0), STATE);
        Bounds.refused("where there is none", Bounds::fresh, x -> x.begin(3), NONE);
    }

    static void p27Anew() {
        AtomTables x = new AtomTables();
        askingBoard(x);
        x.later();
        Check.holds("answer", x.answer(21) > 0);
        Check.due("anew", x.begin(0), 5);
        asks(x, 21, 111, 112, 121, 1112);
        Check.due("none is answered", x.board(2), 0);
        Check.due("nodes", x.board(0), 2);
        Check.due("of one without nodes", x.begin(1), 0);
        asks(x);
    }

    static void p27NothingOfOldIsAsked() {
        AtomTables x = new AtomTables();
        askingBoard(x);
        Bounds.nodes(x, 1, 0);
        Check.due("fewer asks", x.begin(1), 2);
        asks(x, 12, 21);
        Check.due("answer", x.answer(1), 5);
        asks(x, 21, 111, 112, 121, 1112);
    }

    static void p27ACopy() {
        AtomTables x = new AtomTables();
        askingBoard(x);
        x.drop(0);
        x.drop(0);
        Check.due("nodes", x.board(0), 2);
        asks(x, 21, 111, 112, 121, 1112);
        Check.due("answer", x.answer(22), 8);
    }

    // ---- 28: The k-th ASK, from 0, as its GAP. STATE: there is no BOARD; NONE: no such one.

    static void p28FirstLastAndBehind() {
        AtomTables x = new AtomTables();
        askingBoard(x);
        asks(x, 21, 111, 112, 121, 1112);
        AtomTables y = new AtomTables();
        Bounds.quietBoard(y);
        asks(y);
    }

    static void p28NoBoard() {
        for (int k : new int[] {0, -1, 1, MIN, MAX}) Bounds.refused("ask " + k, Bounds::fresh, x -> x.ask(k), STATE);
    }

    static void p28NoSuchOne() {
        for (int k : new int[] {-1, 153, 200, MIN, MAX}) Bounds.refused("ask " + k, Bounds::rich, x -> x.ask(k), NONE);
        Bounds.refused("no asks", Bounds::quietBoard, x -> x.ask(0), NONE);
        Bounds.refused("behind the last", GameBoundsTest::askingBoard, x -> x.ask(5), NONE);
    }

    // ---- 29: The first ASK is answered. STATE: no BOARD, no ASKS; FULL: 6 NODES; NOT: DIGITS do not FILL it.

    static void p29NoBoard() {
        for (int digits : new int[] {0, 1, -1, MAX}) Bounds.refused("no board", Bounds::fresh, x -> x.answer(digits), STATE);
    }

    static void p29NoAsks() {
        for (int digits : new int[] {0, 1, 11, -1}) {
            Bounds.refused("no asks", Bounds::quietBoard, x -> x.answer(digits), STATE);
            Bounds.refused("no asks, no nodes", GameBoundsTest::emptyBoard, x -> x.answer(digits), STATE);
        }
    }

    static void p29FullAtSix() {
        AtomTables x = Check.table(Bounds.LOOSE);
        Bounds.nodes(x, 0, 0, 1, 11, 111, 1111);
        Check.due("asks", x.begin(0), 5 + 10 * 3);
        // node 5 is 2 from all: of the old asks 22, .., 4422 and all by 2 and 2 go; from i to 5 by 1 1 and
        // 2 1 (1 2 and 2 2 are there; from 4 and 0, too), from 5 to itself by 1 1
        Check.holds("the sixth", x.answer(22222) > 0);
        Check.due("six nodes", x.board(0), 6);
        int asks = x.board(1);
        Check.due("no seventh", x.answer(222222), FULL);
        Check.due("asks stay", x.board(1), asks);
        Check.due("answered", x.board(2), 1);
        Bounds.refused("FULL", Bounds::fullBoard, y -> y.answer(111112), FULL);
    }

    static void p29WhichRefusalComesFirst() {
        Bounds.refused("STATE: no asks, FULL", GameBoundsTest::fullQuietBoard, x -> x.answer(111111), STATE);
        Bounds.refused("STATE: no asks, FULL, NOT", GameBoundsTest::fullQuietBoard, x -> x.answer(0), STATE);
        Bounds.refused("FULL, NOT", Bounds::fullBoard, x -> x.answer(0), FULL);
        Bounds.refused("FULL, NOT: five digits", Bounds::fullBoard, x -> x.answer(22222), FULL);
    }

    static void p29DigitsThatDoNotFill() {
        // 21: node 2 is ahead of 0, and so of 1: 22 alone
        for (int digits : new int[] {0, 2, 222, 12, 21, 11, 20, 23, 32, 33, -22, 1022, 122, MIN, MAX, MIN + 22}) {
            Bounds.refused("answer " + digits, GameBoundsTest::askingBoard, x -> x.answer(digits), NOT);
        }
        AtomTables x = new AtomTables();
        askingBoard(x);
        Check.due("22", x.answer(22), 8);
    }

    static void p29NeitherAtomMayDiffer() {
        AtomTables x = Check.table(Bounds.LOOSE);
        Bounds.nodes(x, 0, 0, 1, 11);
        x.begin(0);
        // all that is put is sound: 2 from node 1 to it, 1 from it to node 2, node 0 is free
        bringForward(x, 1221);
        for (int digits : new int[] {221, 222, 111, 112, 211, 212}) Check.due("answer " + digits, x.answer(digits), NOT);
        Check.holds("121", x.answer(121) > 0);
        x.begin(0);
        bringForward(x, 1221);
        Check.holds("122", x.answer(122) > 0);
        x.begin(0);
        bringForward(x, 212);
        for (int digits : new int[] {111, 121, 112, 122, 212, 222}) Check.due("answer " + digits, x.answer(digits), NOT);
        Check.holds("211", x.answer(211) > 0);
    }

    static void p29BetweenTheLastTwoOfFive() {
        AtomTables x = Check.table(Bounds.LOOSE);
        Bounds.nodes(x, 0, 0, 2, 22, 222, 2222);
        for (int digits : new int[] {11222, 11111, 11212}) {
            x.begin(0);
            bringForward(x, 3411);
            Check.due("from 3 by 2", x.answer(12222), NOT);
            Check.due("to 4 by 2", x.answer(21222), NOT);
            Check.due("both", x.answer(22111), NOT);
            Check.holds("answer " + digits, x.answer(digits) > 0);
        }
    }

    private static void bringForward(AtomTables x, int gap) {
        for (int turn = 0; turn < 60 && x.ask(0) != gap; turn++) x.later();
        Check.due("ask", x.ask(0), gap);
    }

    static void p29NotSoundThen() {
        AtomTables x = Check.table("atoms 3;in 1 1 1;in 2 2 2");
        Bounds.nodes(x, 0, 0, 1);
        x.begin(0);
        asks(x, 22, 111, 1122);
        for (int digits : new int[] {12, 22}) Check.due("at odds", x.answer(digits), NOT);
        x.later();
        Check.due("answer", x.answer(11), 3);
        asks(x, 1122, 22, 2222);
    }

    static void p29ForbiddenThen() {
        AtomTables x = Check.table(Bounds.CLIQUE);
        Bounds.nodes(x, 0, 0, 1);
        Bounds.nodes(x, 1, 0, 1, 11);
        Check.due("begin", x.begin(0), 1);
        x.forbid(1);
        Check.due("forbidden then", x.answer(11), NOT);
        x.drop(1);
        x.forbid(1);
        Check.due("forbidden already", x.answer(11), NOT);
        x.drop(1);
        x.drop(1);
        x.forbid(1);
        Check.due("one without nodes", x.answer(11), 0);
    }

    static void p29NoGapAnyMore() {
        AtomTables x = Check.table(Bounds.LOOSE);
        Bounds.nodes(x, 0, 0, 1);
        x.begin(0);
        asks(x, 22, 111, 112, 121, 122, 1122);
        x.later();
        x.triangle(1, 1, 1, 0);
        Check.due("111 is none", x.answer(11), NOT);
        Check.due("it stays", x.board(1), 6);
        x.later();
        // 1 1 2 and 2 2 2 are left. 112: node 2 is 1 from 0 and 2 from 1, so 1122 goes; 122 and 111 go as
        // they are no gaps by what is IN now; 221 and 1222 come
        x.triangle(1, 2, 2, 0);
        Check.due("112", x.answer(21), 4);
        asks(x, 121, 22, 221, 1222);
    }

    static void p29TheLastAskOfAll() {
        AtomTables x = Check.table(Bounds.CLIQUE);
        Bounds.nodes(x, 0, 0);
        x.begin(0);
        Check.due("the first", x.answer(1), 1);
        asks(x, 111);
        Check.due("the last", x.answer(11), 0);
        asks(x);
        Check.due("nothing is asked", x.answer(111), STATE);
        Check.due("answered", x.board(2), 2);
        Check.due("nodes", x.board(0), 3);
    }

    // ---- 30: The first ASK comes behind all others: how many there are. STATE: no BOARD, no ASKS.

    static void p30NoBoardNoAsks() {
        Bounds.refused("no board", Bounds::fresh, x -> x.later(), STATE);
        Bounds.refused("no asks", Bounds::quietBoard, x -> x.later(), STATE);
        Bounds.refused("no asks, no nodes", GameBoundsTest::emptyBoard, x -> x.later(), STATE);
        Bounds.refused("no asks, six nodes", GameBoundsTest::fullQuietBoard, x -> x.later(), STATE);
    }

    static void p30OneAlone() {
        AtomTables x = Check.table(Bounds.CLIQUE);
        Bounds.nodes(x, 0, 0, 1);
        x.begin(0);
        Check.due("later", x.later(), 1);
        asks(x, 111);
    }

    static void p30AllTheWayRound() {
        AtomTables x = new AtomTables();
        askingBoard(x);
        Check.due("once", x.later(), 5);
        asks(x, 111, 112, 121, 1112, 21);
        for (int turn = 0; turn < 4; turn++) Check.due("again", x.later(), 5);
        asks(x, 21, 111, 112, 121, 1112);
        Check.due("none is answered", x.board(2), 0);
        AtomTables y = new AtomTables();
        Bounds.fullBoard(y);
        Check.due("with six nodes", y.later(), 36);
        Check.due("the last now", y.ask(35), 22);
        Check.due("behind it", y.ask(36), NONE);
    }

    // ---- 31: Of THE BOARD: NODES (what 0), ASKS (1), ANSWERED (2). STATE: there is none; NONE: what.

    static void p31EmptyAndFull() {
        AtomTables x = new AtomTables();
        emptyBoard(x);
        for (int what = 0; what < 3; what++) Check.due("empty: board " + what, x.board(what), 0);
        AtomTables y = new AtomTables();
        Bounds.fullBoard(y);
        int[] due = {6, 36, 0};
        for (int what = 0; what < 3; what++) Check.due("full: board " + what, y.board(what), due[what]);
    }

    static void p31NoBoardNoWhat() {
        for (int what : new int[] {-1, 3, 4, MIN, MAX}) {
            Bounds.refused("board " + what, Bounds::rich, x -> x.board(what), NONE);
            Bounds.refused("STATE, NONE: " + what, Bounds::fresh, x -> x.board(what), STATE);
        }
        for (int what = 0; what < 3; what++) {
            int which = what;
            Bounds.refused("no board", Bounds::fresh, x -> x.board(which), STATE);
        }
    }

    // ---- 32: A NETWORK becomes like THE BOARD: how many NODES. NONE; STATE: there is none.

    static void p32EmptyAndFull() {
        AtomTables x = Check.table(Bounds.LOOSE);
        Bounds.six(x, 1);
        x.begin(0);
        Check.due("without nodes", x.take(1), 0);
        Check.due("it has none then", x.drop(1), STATE);
        Bounds.six(x, 1);
        x.begin(1);
        Check.due("six", x.take(0), 6);
        Check.due("six, onto the last", x.take(2), 6);
        Check.due("it is full", x.node(0, 111111), FULL);
        Check.due("the last label", x.label(0, 4, 5), 1);
    }

    static void p32TheBoardStays() {
        AtomTables x = new AtomTables();
        askingBoard(x);
        Check.due("answer", x.answer(22), 8);
        Check.due("take", x.take(2), 3);
        x.relabel(2, 0, 1, 2);
        x.drop(2);
        Check.due("asks", x.board(1), 8);
        Check.due("again", x.take(1), 3);
        Check.due("as it was", x.label(1, 0, 1), 1);
        Check.due("the new node", x.label(1, 0, 2), 2);
    }

    static void p32NoneAndState() {
        for (int net : Bounds.OUTSIDE) {
            Bounds.refused("take of " + net, Bounds::rich, x -> x.take(net), NONE);
            Bounds.refused("NONE, STATE", Bounds::fresh, x -> x.take(net), NONE);
        }
        for (int net = 0; net < 3; net++) {
            int one = net;
            Bounds.refused("no board", Bounds::fresh, x -> x.take(one), STATE);
        }
    }
}
