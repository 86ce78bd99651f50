/** Promises 24 to 32: the game, played to its end and by hand. */
public final class GameTest {
    private static final int NONE = AtomTables.NONE, BAD = AtomTables.BAD, STATE = AtomTables.STATE;
    private static final int FULL = AtomTables.FULL, NOT = AtomTables.NOT;
    private static final int MIN = Integer.MIN_VALUE, MAX = Integer.MAX_VALUE;
    private static final int[] NO_NET = {-1, 3, MIN, MAX};
    private static final String ORDER = "atoms 3;pair 1 2;in 1 1 1";
    /** One atom beside 0, and any three of its nodes go together. */
    private static final String CLIQUE = "atoms 2;in 1 1 1";

    public static void main(String[] args) {
        withoutGaps();
        clique();
        thinTable();
        refusals();
        begin();
        answer();
        answerByWhatIsThen();
        answerOfTwoNodes();
        later();
        board();
        take();
        Check.end("GameTest");
    }

    private static void lasting(AtomTables x, int net, int rounds, int killer) {
        for (int r = 0; r <= 2; r++) {
            boolean won = r <= rounds;
            Check.due("won in " + r, x.won(net, r), won ? 1 : 0);
            Check.due("killer in " + r, x.killer(net, r), won ? NOT : killer);
        }
        Check.due("lasts", x.lasts(net), rounds);
    }

    private static void withoutGaps() {
        AtomTables x = new AtomTables();
        lasting(x, 0, 2, 0);
        Check.nodes(x, 0, 0);
        lasting(x, 0, 2, 0);
        AtomTables y = Check.table("atoms 2");
        Check.nodes(y, 0, 0, 1);
        Check.due("no gap", y.gap(0, -1), 0);
        lasting(y, 0, 2, 0);
    }

    private static void clique() {
        AtomTables x = Check.table(CLIQUE);
        Check.nodes(x, 0, 0);
        Check.nodes(x, 1, 0, 1);
        Check.nodes(x, 2, 0, 1, 11);
        for (int net = 0; net < 3; net++) lasting(x, net, 2, 0);
        x.forbid(2);
        // one node gets a second one, but these two never get a third
        lasting(x, 1, 0, 111);
        Check.due("killed in the second round by the gap of the first", x.killer(0, 2), 11);
        Check.due("one round is won", x.won(0, 1), 1);
        Check.due("two are not", x.won(0, 2), 0);
        Check.due("lasts", x.lasts(0), 1);
        Check.due("forbidden occurs", x.won(2, 0), STATE);
        x.forbid(1);
        lasting(x, 0, 0, 11);
        Check.due("forbidden occurs", x.lasts(1), STATE);
        Check.due("forbidden occurs", x.killer(1, 1), STATE);
        x.drop(0);
        x.forbid(0);
        lasting(x, 0, 2, 0);
        lasting(x, 2, 2, 0);
    }

    private static void thinTable() {
        // the corners of a square: 1 along a side, 2 across
        AtomTables x = Check.table("atoms 3;in 1 1 2");
        Check.nodes(x, 0, 0, 1);
        // from 0 to 1: 1 2 1 and 2 1 1; from 0 to 0 by 2 and 2; from 1 to 1 by 2 and 2
        int[] gaps = {22, 112, 121, 1122};
        Check.due("gaps", x.gap(0, -1), 4);
        for (int k = 0; k < 4; k++) Check.due("gap " + k, x.gap(0, k), gaps[k]);
        for (int k = 0; k < 4; k++) Check.due("fills of " + gaps[k], x.fills(0, gaps[k], -1), 1);
        lasting(x, 0, 2, 0);
        // without the square itself: two gaps of a corner can't be filled one behind the other
        Check.nodes(x, 1, 0, 1, 12, 121);
        Check.due("a square", x.sound(1), NOT);
        Check.due("has no gap", x.gap(1, -1), 0);
        x.forbid(1);
        lasting(x, 0, 1, 22);
        AtomTables y = Check.table("atoms 4;in 1 1 1;in 2 2 2;in 3 3 3");
        Check.nodes(y, 0, 0);
        Check.due("two unlike needs clash", y.killer(0, 2), 11);
        Check.due("lasts", y.lasts(0), 1);
        Check.nodes(y, 1, 0, 1, 11);
        Check.due("in three nodes at once", y.killer(1, 1), 22);
    }

    private static void refusals() {
        AtomTables x = Check.table(ORDER);
        for (int net : NO_NET) {
            Check.due("won of no net", x.won(net, 9), NONE);
            Check.due("killer of no net", x.killer(net, 9), NONE);
            Check.due("lasts of no net", x.lasts(net), NONE);
        }
        Check.nodes(x, 0, 0, 1, 11, 111);
        Check.due("sound", x.sound(0), NOT);
        for (int r : new int[] {-1, 3, MIN, MAX}) {
            Check.due("won: r", x.won(0, r), BAD);
            Check.due("killer: r", x.killer(0, r), BAD);
        }
        Check.due("four nodes", x.won(0, 0), STATE);
        Check.due("four nodes", x.killer(0, 2), STATE);
        Check.due("four nodes", x.lasts(0), STATE);
        x.drop(0);
        Check.due("three nodes", x.won(0, 0), 1);
        x.relabel(0, 0, 2, 2);
        Check.due("unsound", x.won(0, 0), STATE);
        Check.due("unsound", x.killer(0, 0), STATE);
        Check.due("unsound", x.lasts(0), STATE);
    }

    private static void begin() {
        AtomTables x = Check.table(ORDER);
        for (int net : NO_NET) Check.due("begin of no net", x.begin(net), NONE);
        Check.due("ask without a board", x.ask(0), STATE);
        Check.due("ask without a board, far", x.ask(-9), STATE);
        Check.due("no nodes", x.begin(0), 0);
        Check.due("no asks", x.ask(0), NONE);
        Check.nodes(x, 0, 0, 1);
        Check.due("asks", x.begin(0), 5);
        int[] due = {21, 111, 112, 121, 1112};
        for (int k = 0; k < 5; k++) Check.due("ask " + k, x.ask(k), due[k]);
        for (int k : new int[] {5, -1, MIN, MAX}) Check.due("ask " + k, x.ask(k), NONE);
        x.drop(0);
        Check.due("a copy of its own", x.board(0), 2);
        x.node(0, 1);
        x.node(0, 11);
        x.relabel(0, 0, 2, 2);
        Check.due("unsound", x.begin(0), STATE);
        Check.due("the old one stays", x.board(0), 2);
        x.drop(0);
        x.forbid(0);
        Check.due("forbidden occurs", x.begin(0), STATE);
        Check.due("the old one stays", x.board(1), 5);
        x.forbid(-1);
        Check.nodes(x, 1, 0, 1, 11, 111, 1111, 11111);
        Check.due("six nodes", x.begin(1), x.gap(1, -1));
        Check.due("FULL", x.answer(111111), FULL);
        AtomTables y = Check.table("atoms 4;in 1 1 1;in 2 2 2;in 3 3 3;in 1 1 2;in 1 1 3;in 2 2 1;in 2 2 3;in 3 3 1;in 3 3 2");
        y.triangle(1, 2, 3, 1);
        Check.nodes(y, 0, 0, 1, 11, 111, 1111, 11111);
        // each to itself by 2 and 3; each two by all nine but 1 and 1
        Check.due("many asks", y.begin(0), 6 * 2 + 15 * 8);
        Check.due("the last", y.ask(131), 5533);
    }

    private static void answer() {
        AtomTables x = Check.table(ORDER);
        Check.due("no board", x.answer(0), STATE);
        x.begin(0);
        Check.due("no asks", x.answer(0), STATE);
        Check.nodes(x, 0, 0);
        Check.due("begin", x.begin(0), 2);
        Check.due("ask", x.ask(0), 12);
        for (int digits : new int[] {0, 2, 3, 11, -1, MIN, MAX}) Check.due("answer " + digits, x.answer(digits), NOT);
        Check.due("nothing answered", x.board(2), 0);
        // node 1 is behind 0: 0 wants one ahead; from 0 to 1 by 1 1, 1 2, 2 1; 1 to 1 by 1 2
        Check.due("answer", x.answer(1), 5);
        int[] due = {21, 111, 112, 121, 1112};
        for (int k = 0; k < 5; k++) Check.due("ask " + k, x.ask(k), due[k]);
        Check.due("answered", x.board(2), 1);
        // node 2 ahead of both: fills 121 too; new gaps: from 0 to 2 (behind it) .., 1 to 2, 2 to 2
        Check.due("answer ahead of both", x.answer(22), x.board(1));
        Check.due("121 is filled, too", x.ask(0) * 10000L + x.ask(1), 111 * 10000L + 112);
        Check.due("1112 stays", x.ask(2), 1112);
        int before = 3;
        // 0 to 2 is 2: by 1 2 (1 is behind 0, and behind 2: there already), by 2 1, by 2 2
        Check.due("asks", x.board(1), before + 5);
        int[] came = {221, 222, 1212, 1221, 2221};
        for (int k = 0; k < 5; k++) Check.due("came " + k, x.ask(before + k), came[k]);
        Check.due("the network is not touched", x.count(1), 1);
    }

    private static void answerByWhatIsThen() {
        AtomTables x = Check.table(CLIQUE);
        Check.nodes(x, 0, 0, 1);
        Check.nodes(x, 1, 0, 1, 11);
        Check.due("begin", x.begin(0), 1);
        x.triangle(1, 1, 1, 0);
        Check.due("it is no gap any more", x.answer(11), NOT);
        Check.due("but stays asked", x.ask(0), 111);
        x.triangle(1, 1, 1, 1);
        x.forbid(1);
        Check.due("forbidden by now", x.answer(11), NOT);
        x.forbid(-1);
        Check.due("free again", x.answer(11), 0);
        Check.due("nothing asked", x.answer(111), STATE);
        AtomTables y = Check.table("atoms 3;in 1 1 1;in 1 1 2");
        Check.nodes(y, 0, 0, 1, 11);
        y.begin(0);
        int asks = y.board(1);
        Check.due("to itself by 2 and 2", y.ask(0), 22);
        y.triangle(1, 1, 1, 0);
        Check.due("an unsound board takes nothing", y.answer(112), NOT);
        y.triangle(1, 1, 1, 1);
        Check.due("gaps that were made meanwhile do not come", asks, y.board(1));
        y.triangle(2, 2, 1, 1);
        Check.due("answer", y.answer(112) > 0 ? 1 : 0, 1);
        boolean old = false;
        for (int k = 0; k < y.board(1); k++) old |= y.ask(k) == 122;
        Check.holds("a gap between old nodes is not asked", !old);
        y.take(1);
        boolean there = false;
        for (int k = 0; k < y.gap(1, -1); k++) there |= y.gap(1, k) == 122;
        Check.holds("though it is one", there);
    }

    private static void answerOfTwoNodes() {
        AtomTables x = Check.table("atoms 3;in 1 1 1;in 1 1 2;in 1 2 2;in 2 2 2");
        Check.nodes(x, 0, 0, 1);
        x.begin(0);
        for (int turn = 0; turn < 9 && x.ask(0) != 112; turn++) x.later();
        Check.due("ask", x.ask(0), 112);
        // by 1 from 0, by 2 to 1; anything is sound
        for (int digits : new int[] {11, 12, 22}) Check.due("answer " + digits, x.answer(digits), NOT);
        Check.due("answer 21", x.answer(21) > 0 ? 1 : 0, 1);
    }

    private static void later() {
        AtomTables x = Check.table(ORDER);
        Check.due("no board", x.later(), STATE);
        x.begin(0);
        Check.due("no asks", x.later(), STATE);
        Check.nodes(x, 0, 0, 1);
        x.begin(0);
        Check.due("later", x.later(), 5);
        int[] due = {111, 112, 121, 1112, 21};
        for (int k = 0; k < 5; k++) Check.due("ask " + k, x.ask(k), due[k]);
        Check.due("nothing is answered", x.board(2), 0);
        Check.due("the first now", x.answer(12), NOT);
        Check.due("is answered", x.answer(21) > 0 ? 1 : 0, 1);
        AtomTables y = Check.table(CLIQUE);
        Check.nodes(y, 0, 0);
        y.begin(0);
        Check.due("one alone", y.later(), 1);
        Check.due("stays", y.ask(0), 11);
    }

    private static void board() {
        AtomTables x = Check.table(ORDER);
        Check.due("STATE ahead of NONE", x.board(7), STATE);
        Check.nodes(x, 0, 0);
        x.begin(0);
        int[] due = {1, 2, 0};
        for (int what = 0; what < 3; what++) Check.due("board " + what, x.board(what), due[what]);
        for (int what : new int[] {3, -1, MIN, MAX}) Check.due("board " + what, x.board(what), NONE);
        x.answer(1);
        int[] then = {2, 5, 1};
        for (int what = 0; what < 3; what++) Check.due("board " + what, x.board(what), then[what]);
        x.begin(0);
        for (int what = 0; what < 3; what++) Check.due("anew: board " + what, x.board(what), due[what]);
    }

    private static void take() {
        AtomTables x = Check.table(ORDER);
        Check.due("NONE ahead of STATE", x.take(3), NONE);
        Check.due("STATE", x.take(0), STATE);
        Check.nodes(x, 0, 0);
        x.begin(0);
        x.answer(1);
        Check.due("take", x.take(2), 2);
        Check.due("its atom", x.label(2, 0, 1), 1);
        Check.due("and back", x.label(2, 1, 0), 2);
        x.relabel(2, 0, 1, 2);
        x.take(1);
        Check.due("the board is not touched", x.label(1, 0, 1), 1);
        for (int net : NO_NET) Check.due("take of no net", x.take(net), NONE);
    }
}
