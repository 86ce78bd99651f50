/** Promises 14 to 23: networks, gaps, fills, patterns. */
public final class NetworksTest {
    private static final int NONE = AtomTables.NONE, BAD = AtomTables.BAD, STATE = AtomTables.STATE;
    private static final int FULL = AtomTables.FULL, NOT = AtomTables.NOT;
    private static final int MIN = Integer.MIN_VALUE, MAX = Integer.MAX_VALUE;
    private static final int[] NO_NET = {-1, 3, MIN, MAX};
    private static final String ORDER = "atoms 3;pair 1 2;in 1 1 1";
    private static final String RING = "atoms 3;in 1 1 2;in 2 2 1";

    public static void main(String[] args) {
        node();
        drop();
        label();
        relabel();
        copy();
        sound();
        gap();
        fills();
        fillsUnderForbidden();
        occurs();
        forbid();
        Check.end("NetworksTest");
    }

    private static void node() {
        AtomTables x = Check.table(ORDER);
        for (int net : NO_NET) Check.due("node of no net", x.node(net, 0), NONE);
        Check.due("the first takes 0 alone", x.node(0, 1), BAD);
        Check.due("the first, below 0", x.node(0, -1), BAD);
        Check.nodes(x, 0, 0, 1, 21);
        Check.due("from 0 the lowest digit", x.label(0, 0, 2), 1);
        Check.due("from 1 the next", x.label(0, 1, 2), 2);
        Check.due("to 0 the converse", x.label(0, 2, 0), 2);
        Check.due("to 1 the converse", x.label(0, 2, 1), 1);
        Check.due("to itself", x.label(0, 2, 2), 0);
        for (int digits : new int[] {0, 1, 11, 1111, 311, 131, 113, 101, 110, -111, MIN, MAX}) {
            Check.due("digits " + digits, x.node(0, digits), BAD);
        }
        Check.due("nothing changed", x.count(1), 3);
        Check.due("3", x.node(0, 111), 3);
        Check.due("4", x.node(0, 1111), 4);
        Check.due("5", x.node(0, 21211), 5);
        Check.due("FULL", x.node(0, 111111), FULL);
        Check.due("FULL ahead of BAD", x.node(0, 0), FULL);
        Check.due("unsound ones may be put", x.sound(0) >= 0 ? 1 : 0, 1);
        AtomTables y = new AtomTables();
        Check.nodes(y, 2, 0);
        Check.due("no atom but 0", y.node(2, 1), BAD);
        Check.due("no atom but 0: 0", y.node(2, 0), BAD);
    }

    private static void drop() {
        AtomTables x = Check.table(ORDER);
        for (int net : NO_NET) Check.due("drop of no net", x.drop(net), NONE);
        Check.due("none there", x.drop(1), STATE);
        Check.nodes(x, 1, 0, 1, 11);
        Check.due("the last goes", x.drop(1), 2);
        Check.due("it is gone", x.label(1, 2, 0), NONE);
        Check.due("the others stay", x.label(1, 0, 1), 1);
        Check.due("drop", x.drop(1), 1);
        Check.due("drop", x.drop(1), 0);
        Check.due("drop", x.drop(1), STATE);
    }

    private static void label() {
        AtomTables x = Check.table(ORDER);
        Check.nodes(x, 0, 0, 2);
        Check.due("0 1", x.label(0, 0, 1), 2);
        Check.due("1 0", x.label(0, 1, 0), 1);
        Check.due("1 1", x.label(0, 1, 1), 0);
        for (int bad : new int[] {-1, 2, 6, MIN, MAX}) {
            Check.due("label: i", x.label(0, bad, 0), NONE);
            Check.due("label: j", x.label(0, 0, bad), NONE);
        }
        for (int net : NO_NET) Check.due("label: net", x.label(net, 0, 0), NONE);
        Check.due("an empty net", x.label(1, 0, 0), NONE);
    }

    private static void relabel() {
        AtomTables x = Check.table(ORDER);
        Check.nodes(x, 0, 0, 2, 11);
        Check.due("it was 2", x.relabel(0, 0, 1, 1), 2);
        Check.due("it is 1", x.label(0, 0, 1), 1);
        Check.due("and back its converse", x.label(0, 1, 0), 2);
        Check.due("from above", x.relabel(0, 2, 0, 1), 2);
        Check.due("and its converse", x.label(0, 0, 2), 2);
        Check.due("another one stays", x.label(0, 1, 2), 1);
        for (int bad : new int[] {-1, 3, MIN, MAX}) {
            Check.due("relabel: net", x.relabel(bad, 0, 1, 1), NONE);
            Check.due("relabel: i", x.relabel(0, bad, 1, 1), NONE);
            Check.due("relabel: j", x.relabel(0, 0, bad, 1), NONE);
            Check.due("relabel: a", x.relabel(0, 0, 1, bad), NONE);
        }
        Check.due("relabel: alike", x.relabel(0, 1, 1, 1), NONE);
        Check.due("relabel: to 0", x.relabel(0, 0, 1, 0), NONE);
        Check.due("nothing changed", x.label(0, 0, 1), 1);
    }

    private static void copy() {
        AtomTables x = Check.table(ORDER);
        Check.nodes(x, 0, 0, 2, 12);
        Check.due("copy", x.copy(0, 2), 3);
        Check.due("the same atom", x.label(2, 0, 1), 2);
        Check.due("the same atom back", x.label(2, 2, 1), 2);
        x.relabel(2, 0, 1, 1);
        Check.due("a copy of its own", x.label(0, 0, 1), 2);
        Check.due("on itself", x.copy(0, 0), 3);
        Check.due("of an empty one", x.copy(1, 2), 0);
        Check.due("empty then", x.drop(2), STATE);
        for (int net : NO_NET) {
            Check.due("copy: net", x.copy(net, 0), NONE);
            Check.due("copy: other", x.copy(0, net), NONE);
        }
        Check.due("nothing changed", x.count(1), 3);
    }

    private static void sound() {
        AtomTables x = Check.table(ORDER);
        Check.due("without nodes", x.sound(0), NOT);
        Check.nodes(x, 0, 0, 1);
        Check.due("two are always", x.sound(0), NOT);
        x.node(0, 11);
        Check.due("0 before 1 before 2", x.sound(0), NOT);
        x.relabel(0, 0, 2, 2);
        Check.due("round and round", x.sound(0), 12);
        x.relabel(0, 0, 2, 1);
        // 3 is behind 2, but ahead of 0
        x.node(0, 112);
        Check.due("the first by i, j, k", x.sound(0), 13);
        x.relabel(0, 0, 3, 1);
        Check.due("mended", x.sound(0), NOT);
        x.relabel(0, 1, 3, 2);
        Check.due("between 1, 2, 3", x.sound(0), 123);
        x.triangle(1, 1, 1, 0);
        Check.due("by what is in now", x.sound(0), 12);
        for (int net : NO_NET) Check.due("sound of no net", x.sound(net), NONE);
    }

    private static void gap() {
        AtomTables x = Check.table(ORDER);
        Check.due("without nodes", x.gap(0, -1), 0);
        Check.nodes(x, 0, 0);
        // from 0 to 0: before and back, behind and back
        Check.due("of one node", x.gap(0, -1), 2);
        Check.due("the first", x.gap(0, 0), 12);
        Check.due("the second", x.gap(0, 1), 21);
        Check.due("no third", x.gap(0, 2), NONE);
        x.node(0, 1);
        int[] due = {21, 111, 112, 121, 1112};
        Check.due("of two nodes", x.gap(0, -1), due.length);
        for (int k = 0; k < due.length; k++) Check.due("gap " + k, x.gap(0, k), due[k]);
        for (int k : new int[] {5, -2, MIN, MAX}) Check.due("gap " + k, x.gap(0, k), NONE);
        for (int net : NO_NET) Check.due("gap of no net", x.gap(net, -1), NONE);
        x.node(0, 22);
        x.relabel(0, 0, 1, 2);
        x.relabel(0, 1, 2, 1);
        x.triangle(1, 1, 1, 0);
        Check.due("an unsound one has gaps, too", x.sound(0), 12);
        // 0 behind 1, 1 before 2, 0 behind 2; in are threes with a 0 alone
        Check.due("gaps of it", x.gap(0, -1), 2);
        Check.due("behind 0", x.gap(0, 0), 12);
        Check.due("ahead of 1", x.gap(0, 1), 1121);
    }

    private static void fills() {
        AtomTables x = Check.table(ORDER);
        Check.nodes(x, 0, 0, 1);
        Check.due("between 0 and 1", x.fills(0, 111, -1), 1);
        Check.due("before 1, behind 0", x.fills(0, 111, 0), 21);
        Check.due("no second", x.fills(0, 111, 1), NONE);
        Check.due("far away", x.fills(0, 111, MAX), NONE);
        // ahead of 0: 2 from 0 to it, 2 from 1 to it
        Check.due("ahead of 0", x.fills(0, 21, -1), 1);
        Check.due("and of 1", x.fills(0, 21, 0), 22);
        Check.due("behind 1", x.fills(0, 1112, 0), 11);
        AtomTables y = Check.table("atoms 3;in 1 1 1;in 1 1 2;in 1 2 2;in 2 2 2");
        Check.nodes(y, 0, 0, 1, 11);
        // all goes: from 0 to 0 by 2 and 2: the others are free
        Check.due("free ones", y.fills(0, 22, -1), 4);
        int[] ways = {112, 122, 212, 222};
        for (int k = 0; k < 4; k++) Check.due("way " + k, y.fills(0, 22, k), ways[k]);
        Check.due("from 0 to 2 by 1 and 2", y.fills(0, 212, -1), 2);
        Check.due("the first of these", y.fills(0, 212, 0), 211);
        Check.due("the second of these", y.fills(0, 212, 1), 221);
        for (int bad : NO_NET) Check.due("fills: net", y.fills(bad, 22, -1), NONE);
        Check.due("fills: k", y.fills(0, 9, -2), NONE);
        Check.due("fills: k far below", y.fills(0, 22, MIN), NONE);
        for (int gap : new int[] {11, 16, 96, 0, 5, -22, -1, 222 + 10000, 2022, 322, 3322, 33, 1022, 20, 2, 23, 32, MIN, MAX}) {
            Check.due("no gap " + gap, y.fills(0, gap, 7), BAD);
        }
        y.relabel(0, 0, 1, 2);
        y.triangle(2, 1, 1, 0);
        Check.due("unsound", y.sound(0), 12);
        Check.due("no gap ahead of that", y.fills(0, 11, -1), BAD);
        Check.due("STATE", y.fills(0, 2222, -1), STATE);
        Check.due("STATE ahead of no such way", y.fills(0, 2222, 99), STATE);
        Check.nodes(y, 1, 0, 2, 22, 222, 2222, 22222);
        Check.due("six nodes", y.fills(1, 122, 0), BAD);
        y.triangle(1, 1, 2, 1);
        Check.due("FULL", y.fills(1, 111, -1), FULL);
        Check.due("FULL ahead of no such way", y.fills(1, 111, 999), FULL);
        Check.due("nothing was put", y.count(1), 9);
    }

    private static void fillsUnderForbidden() {
        AtomTables x = Check.table("atoms 3;in 1 1 1;in 1 1 2;in 1 2 2;in 2 2 2");
        Check.nodes(x, 0, 0, 1);
        Check.nodes(x, 1, 0, 2, 22);
        x.forbid(1);
        Check.due("no three with 2 alone yet", x.fills(0, 22, -1), 2);
        x.relabel(0, 0, 1, 2);
        Check.due("one way is left", x.fills(0, 11, -1), 2);
        Check.due("from 0 to 1 by 2 and 2: none", x.fills(0, 122, -1), 0);
        Check.due("no first one", x.fills(0, 122, 0), NONE);
        x.drop(1);
        x.forbid(1);
        Check.due("what is there already forbids all", x.fills(0, 11, -1), 0);
        x.drop(1);
        x.drop(1);
        x.forbid(1);
        Check.due("one without nodes forbids nothing", x.fills(0, 122, -1), 1);
    }

    private static void occurs() {
        AtomTables x = Check.table(RING);
        Check.due("nothing in nothing", x.occurs(0, 1, -1), 1);
        Check.due("told as 0", x.occurs(0, 1, 0), 0);
        Check.nodes(x, 0, 0, 1);
        Check.nodes(x, 1, 0, 1, 12);
        // 0 1 and 1 2 are beside one another, 0 2 across
        Check.due("nothing in three", x.occurs(2, 1, -1), 1);
        Check.due("three in nothing", x.occurs(1, 2, -1), 0);
        Check.nodes(x, 2, 0);
        Check.due("one in three", x.occurs(2, 1, -1), 3);
        Check.due("the last", x.occurs(2, 1, 2), 3);
        x.copy(0, 1);
        x.drop(0);
        x.drop(0);
        Check.due("one in nothing", x.occurs(2, 0, -1), 0);
        x.drop(2);
        x.copy(1, 0);
        x.node(1, 12);
        Check.due("three in two", x.occurs(1, 0, -1), 0);
        Check.due("two in three", x.occurs(0, 1, -1), 4);
        int[] due = {12, 21, 23, 32};
        for (int k = 0; k < 4; k++) Check.due("way " + k, x.occurs(0, 1, k), due[k]);
        Check.due("no fifth", x.occurs(0, 1, 4), NONE);
        Check.due("in itself", x.occurs(1, 1, -1), 2);
        Check.due("turned", x.occurs(1, 1, 0), 123);
        Check.due("as it is", x.occurs(1, 1, 1), 321);
        for (int bad : NO_NET) {
            Check.due("occurs: net", x.occurs(bad, 0, -1), NONE);
            Check.due("occurs: other", x.occurs(0, bad, -1), NONE);
        }
        Check.due("occurs: k", x.occurs(0, 1, -2), NONE);
        Check.due("occurs: k", x.occurs(0, 1, MIN), NONE);
        AtomTables y = Check.table(ORDER);
        Check.nodes(y, 0, 0, 1);
        Check.nodes(y, 1, 0, 2, 22, 222, 2222, 22222);
        Check.due("one behind the other", y.occurs(0, 1, -1), 15);
        Check.due("the first", y.occurs(0, 1, 0), 12);
        Check.due("the last", y.occurs(0, 1, 14), 56);
        Check.due("six in six", y.occurs(1, 1, -1), 1);
        Check.due("as they are", y.occurs(1, 1, 0), 654321);
        AtomTables z = Check.table("atoms 2");
        Check.nodes(z, 0, 0, 1, 11, 111, 1111, 11111);
        Check.due("in all orders", z.occurs(0, 0, -1), 720);
        Check.due("the first", z.occurs(0, 0, 0), 123456);
        Check.due("the last", z.occurs(0, 0, 719), 654321);
    }

    private static void forbid() {
        AtomTables x = Check.table(ORDER);
        Check.nodes(x, 0, 0, 1);
        for (int net : new int[] {-2, 3, MIN, MAX}) Check.due("forbid " + net, x.forbid(net), NONE);
        Check.due("it was none", x.forbid(0), NOT);
        Check.due("two nodes", x.count(4), 2);
        x.drop(0);
        Check.due("a copy of its own", x.count(4), 2);
        Check.due("it had two", x.forbid(1), 2);
        Check.due("one without nodes", x.count(4), 0);
        Check.due("it had none, but was", x.forbid(0), 0);
        Check.due("it had one", x.forbid(-1), 1);
        Check.due("none", x.count(4), 0);
        Check.due("it was none", x.forbid(-1), NOT);
    }
}
