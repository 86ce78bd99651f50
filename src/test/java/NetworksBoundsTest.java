/** Boundary cases of promises 14 to 23: networks, gaps, fills, patterns. */
public final class NetworksBoundsTest {
    private static final int NONE = Bounds.NONE, BAD = Bounds.BAD, STATE = Bounds.STATE;
    private static final int FULL = Bounds.FULL, NOT = Bounds.NOT;
    private static final int MIN = Bounds.MIN, MAX = Bounds.MAX;
    /** Four atoms of which any three go together. */
    private static final String LOOSEST =
        "atoms 4;in 1 1 1;in 1 1 2;in 1 1 3;in 1 2 2;in 1 2 3;in 1 3 3;in 2 2 2;in 2 2 3;in 2 3 3;in 3 3 3";
    /** A three of nodes goes with one 2 in it, not with more. */
    private static final String FEW = "atoms 3;in 1 1 1;in 1 1 2";

    public static void main(String[] args) throws Exception {
        Bounds.run(NetworksBoundsTest.class, 14, 23);
    }

    /** Six nodes, some of them at odds. */
    private static void sixUnsound(AtomTables x) {
        x.atoms(3);
        x.triangle(1, 1, 1, 1);
        x.triangle(1, 1, 2, 1);
        Bounds.six(x, 0);
        x.relabel(0, 0, 1, 2);
        x.relabel(0, 1, 2, 2);
        Check.due("unsound", x.sound(0), 12);
    }

    private static int ones(int digits, int digit) {
        int number = 0;
        for (int i = 0; i < digits; i++) number = 10 * number + digit;
        return number;
    }

    // ---- 14: A NODE more, by DIGITS (0, where there are none): its number. NONE: net; FULL; BAD: digits.

    static void p14NetworksNoughtToTwo() {
        AtomTables x = new AtomTables();
        Check.due("the first", x.node(0, 0), 0);
        Check.due("the last", x.node(2, 0), 0);
        Check.due("apart from each other", x.count(1), 2);
        for (int net : Bounds.OUTSIDE) Bounds.refused("node of " + net, Bounds::rich, y -> y.node(net, 0), NONE);
    }

    static void p14WithoutNodesNoughtAlone() {
        for (int n = 1; n <= 4; n++) {
            AtomTables x = new AtomTables();
            x.atoms(n);
            for (int digits : new int[] {1, -1, 2, 10, 11, MIN, MAX}) Check.due("digits " + digits, x.node(1, digits), BAD);
            Check.due("nothing was put", x.count(1), 0);
            Check.due("0", x.node(1, 0), 0);
        }
        Bounds.refused("1 as the first", Bounds::fresh, y -> y.node(0, 1), BAD);
        Bounds.refused("-1 as the first", Bounds::fresh, y -> y.node(0, -1), BAD);
    }

    static void p14OfOneAtomNoSecondNode() {
        AtomTables x = new AtomTables();
        Check.due("the first", x.node(0, 0), 0);
        for (int digits = -1; digits < 12; digits++) Check.due("no second by " + digits, x.node(0, digits), BAD);
        Check.due("one it is", x.count(1), 1);
    }

    static void p14LeastAndGreatestDigits() {
        for (int n = 2; n <= 4; n++) {
            AtomTables x = new AtomTables();
            x.atoms(n);
            for (int m = 0; m < 6; m++) {
                Check.due("ones", x.node(0, ones(m, 1)), m);
                Check.due("the greatest", x.node(2, ones(m, n - 1)), m);
            }
            Check.due("from the last but one", x.label(2, 4, 5), n - 1);
            Check.due("from the first", x.label(2, 0, 5), n - 1);
        }
    }

    static void p14EachDigitAnAtomButNought() {
        for (int n = 2; n <= 4; n++) {
            AtomTables x = new AtomTables();
            x.atoms(n);
            for (int m = 0; m < 6; m++) {
                int unit = 1;
                for (int p = 0; p < m; p++) {
                    Check.due("a 0", x.node(0, ones(m, 1) - unit), BAD);
                    Check.due("one too great", x.node(0, ones(m, 1) + (n - 1) * unit), BAD);
                    unit *= 10;
                }
                Check.due("ones", x.node(0, ones(m, 1)), m);
            }
        }
    }

    static void p14AsManyDigitsAsNodes() {
        AtomTables x = new AtomTables();
        x.atoms(4);
        for (int m = 0; m < 6; m++) {
            Check.due("one too many", x.node(0, ones(m + 1, 1)), BAD);
            if (m > 0) Check.due("one too few", x.node(0, ones(m - 1, 1)), BAD);
            Check.due("many too many", x.node(0, 1111111111), BAD);
            Check.due("below 0", x.node(0, -ones(m + 1, 1)), BAD);
            if (m > 0) Check.due("as many, below 0", x.node(0, -ones(m, 1)), BAD);
            Check.due("as many", x.node(0, ones(m, 1)), m);
        }
    }

    static void p14FullAtSix() {
        AtomTables x = new AtomTables();
        x.atoms(2);
        Bounds.six(x, 1);
        Check.due("no seventh", x.node(1, 111111), FULL);
        Check.due("six stay", x.count(1), 6);
        Check.due("another one is not full", x.node(0, 0), 0);
        Check.due("one goes", x.drop(1), 5);
        Check.due("and comes", x.node(1, 11111), 5);
        Bounds.refused("a seventh", Bounds::rich, y -> y.node(1, 111111), FULL);
    }

    static void p14WhichRefusalComesFirst() {
        Bounds.refused("NONE, BAD", Bounds::rich, y -> y.node(3, -5), NONE);
        Bounds.refused("FULL, BAD", Bounds::rich, y -> y.node(1, 0), FULL);
        Bounds.refused("FULL, BAD: five digits", Bounds::rich, y -> y.node(1, 11111), FULL);
        Bounds.refused("BAD alone", Bounds::rich, y -> y.node(0, 444), BAD);
        Bounds.refused("BAD: the last digit", Bounds::rich, y -> y.node(0, 114), BAD);
        Bounds.refused("BAD: the first digit", Bounds::rich, y -> y.node(0, 411), BAD);
    }

    // ---- 15: The last NODE goes: how many there are. NONE; STATE: there are none.

    static void p15FromSixToNone() {
        AtomTables x = new AtomTables();
        x.atoms(2);
        Bounds.six(x, 2);
        for (int m = 5; m >= 0; m--) Check.due("drop", x.drop(2), m);
        Check.due("none is left", x.drop(2), STATE);
        Check.due("nor then", x.drop(2), STATE);
        Check.due("a new first one", x.node(2, 0), 0);
    }

    static void p15NoneThere() {
        for (int net = 0; net < 3; net++) {
            int from = net;
            Bounds.refused("drop", Bounds::fresh, y -> y.drop(from), STATE);
        }
    }

    static void p15NetworksNoughtToTwo() {
        for (int net : Bounds.OUTSIDE) Bounds.refused("drop of " + net, Bounds::rich, y -> y.drop(net), NONE);
        AtomTables x = new AtomTables();
        Bounds.nodes(x, 0, 0);
        Bounds.nodes(x, 2, 0);
        Check.due("the first", x.drop(0), 0);
        Check.due("the last", x.drop(2), 0);
    }

    // ---- 16: The ATOM from NODE i to j. NONE.

    static void p16FirstAndLastNode() {
        for (int m = 1; m <= 6; m++) {
            AtomTables x = new AtomTables();
            x.atoms(3);
            x.pair(1, 2);
            for (int i = 0; i < m; i++) x.node(0, ones(i, 2));
            for (int i = 0; i < m; i++)
                for (int j = 0; j < m; j++) Check.due("label", x.label(0, i, j), i == j ? 0 : i < j ? 2 : 1);
            for (int bad : new int[] {-1, m, m + 1, 6, 7, MIN, MAX}) {
                Check.due("i", x.label(0, bad, 0), NONE);
                Check.due("j", x.label(0, m - 1, bad), NONE);
                Check.due("both", x.label(0, bad, bad), NONE);
            }
        }
    }

    static void p16NoNodes() {
        AtomTables x = new AtomTables();
        Bounds.nodes(x, 1, 0);
        Check.due("an empty one", x.label(0, 0, 0), NONE);
        Check.due("one node", x.label(1, 0, 0), 0);
        Check.due("an empty one behind it", x.label(2, 0, 0), NONE);
    }

    static void p16RefusedNothingChanges() {
        for (int net : Bounds.OUTSIDE) Bounds.refused("label: net", Bounds::rich, y -> y.label(net, 0, 0), NONE);
        Bounds.refused("label: i", Bounds::rich, y -> y.label(0, 3, 0), NONE);
        Bounds.refused("label: j", Bounds::rich, y -> y.label(0, 0, -1), NONE);
    }

    // ---- 17: It becomes a: what it was. NONE: net, i, j (alike, too), a (0, too).

    static void p17LeastAndGreatestAtom() {
        AtomTables x = new AtomTables();
        Bounds.rich(x);
        Check.due("the greatest, between the first and the last", x.relabel(1, 0, 5, 3), 1);
        Check.due("the least, back", x.relabel(1, 5, 0, 1), 3);
        Check.due("its converse", x.label(1, 0, 5), 2);
        Check.due("as it is", x.relabel(1, 5, 0, 1), 1);
        Check.due("the last two", x.relabel(1, 4, 5, 3), 1);
        Check.due("its own converse", x.label(1, 5, 4), 3);
    }

    static void p17NoSuchNode() {
        for (int bad : new int[] {-1, 3, 6, MIN, MAX}) {
            Bounds.refused("relabel: i", Bounds::rich, y -> y.relabel(0, bad, 1, 1), NONE);
            Bounds.refused("relabel: j", Bounds::rich, y -> y.relabel(0, 1, bad, 1), NONE);
            Bounds.refused("relabel: both", Bounds::rich, y -> y.relabel(0, bad, bad, 1), NONE);
        }
        Bounds.refused("no nodes", Bounds::fresh, y -> y.relabel(0, 0, 1, 1), NONE);
        for (int net : Bounds.OUTSIDE) Bounds.refused("relabel: net", Bounds::rich, y -> y.relabel(net, 0, 1, 1), NONE);
    }

    static void p17Alike() {
        for (int i = 0; i < 3; i++) {
            int node = i;
            Bounds.refused("alike", Bounds::rich, y -> y.relabel(0, node, node, 1), NONE);
            Bounds.refused("alike, to 0", Bounds::rich, y -> y.relabel(0, node, node, 0), NONE);
        }
    }

    static void p17NoSuchAtom() {
        for (int a : new int[] {0, 4, -1, 5, MIN, MAX}) Bounds.refused("a " + a, Bounds::rich, y -> y.relabel(0, 0, 1, a), NONE);
    }

    // ---- 18: NETWORK other becomes like net: how many NODES. NONE.

    static void p18EmptyAndFull() {
        AtomTables x = new AtomTables();
        x.atoms(3);
        x.pair(1, 2);
        Bounds.six(x, 0);
        Check.due("full onto empty", x.copy(0, 2), 6);
        Check.due("full: the last atom", x.label(2, 5, 4), 2);
        Check.due("full is full", x.node(2, 111111), FULL);
        Check.due("empty onto full", x.copy(1, 0), 0);
        Check.due("empty is empty", x.drop(0), STATE);
        Check.due("empty onto empty", x.copy(0, 1), 0);
        Check.due("onto itself", x.copy(2, 2), 6);
        Check.due("as it was", x.label(2, 0, 5), 1);
    }

    static void p18TheyAreApartBehindIt() {
        AtomTables x = new AtomTables();
        x.atoms(3);
        Bounds.nodes(x, 0, 0, 1);
        x.copy(0, 1);
        x.relabel(0, 0, 1, 2);
        Check.due("the copy stays", x.label(1, 0, 1), 1);
        x.drop(1);
        Check.due("the first stays", x.label(0, 0, 1), 2);
    }

    static void p18NoSuchNetwork() {
        for (int bad : Bounds.OUTSIDE) {
            Bounds.refused("copy: net", Bounds::rich, y -> y.copy(bad, 0), NONE);
            Bounds.refused("copy: other", Bounds::rich, y -> y.copy(0, bad), NONE);
            Bounds.refused("copy: both", Bounds::rich, y -> y.copy(bad, bad), NONE);
        }
    }

    // ---- 19: 100 i plus 10 j plus k of the first for which it is not SOUND; NOT: it is SOUND. NONE.

    static void p19UpToTwoNodesAlwaysSound() {
        AtomTables x = Check.table("atoms 4;pair 1 2");
        Check.due("none", x.sound(0), NOT);
        x.node(0, 0);
        Check.due("one", x.sound(0), NOT);
        for (int a = 1; a < 4; a++) {
            x.node(0, a);
            Check.due("two", x.sound(0), NOT);
            x.drop(0);
        }
        x.node(0, 1);
        x.node(0, 11);
        Check.due("three are not", x.sound(0), 12);
        x.drop(0);
        Check.due("two again", x.sound(0), NOT);
    }

    static void p19FirstAndLastThreeOfSix() {
        int[][] rows = {{0, 1, 2}, {0, 1, 5}, {0, 4, 5}, {1, 2, 3}, {2, 4, 5}, {3, 4, 5}};
        for (int[] r : rows) {
            AtomTables x = Check.table(FEW);
            Bounds.six(x, 1);
            Check.due("six", x.sound(1), NOT);
            x.relabel(1, r[0], r[1], 2);
            Check.due("one 2", x.sound(1), NOT);
            x.relabel(1, r[2], r[1], 2);
            Check.due("two in one three", x.sound(1), 100 * r[0] + 10 * r[1] + r[2]);
            x.relabel(1, r[0], r[2], 2);
            Check.due("three in it", x.sound(1), 100 * r[0] + 10 * r[1] + r[2]);
        }
    }

    static void p19NoSuchNetwork() {
        for (int net : Bounds.OUTSIDE) Bounds.refused("sound of " + net, Bounds::rich, y -> y.sound(net), NONE);
    }

    // ---- 20: The k-th GAP, from 0; k -1: how many. NONE: net, no such one.

    private static void gaps(AtomTables x, int net, int... due) {
        Check.due("how many", x.gap(net, -1), due.length);
        for (int k = 0; k < due.length; k++) Check.due("gap " + k, x.gap(net, k), due[k]);
        for (int k : new int[] {due.length, -2, MIN, MAX}) Check.due("no gap " + k, x.gap(net, k), NONE);
    }

    static void p20NoNodesOneNode() {
        gaps(new AtomTables(), 0);
        AtomTables one = new AtomTables();
        Bounds.nodes(one, 0, 0);
        gaps(one, 0);
        gaps(Check.table(LOOSEST), 2);
        // i may be j: only if b is a'
        int[][] due = {{}, {11}, {11, 22}, {11, 22, 33}};
        for (int n = 1; n <= 4; n++) {
            AtomTables x = new AtomTables();
            x.atoms(n);
            Bounds.nodes(x, 2, 0);
            gaps(x, 2, due[n - 1]);
        }
        AtomTables paired = Check.table("atoms 4;pair 1 2");
        Bounds.nodes(paired, 1, 0);
        gaps(paired, 1, 12, 21, 33);
    }

    static void p20TheNodesThemselvesDoNotFill() {
        AtomTables x = Check.table(Bounds.CLIQUE);
        Bounds.nodes(x, 0, 0, 1);
        gaps(x, 0, 111);
        x.node(0, 11);
        gaps(x, 0);
        AtomTables two = Check.table("atoms 2");
        Bounds.nodes(two, 0, 0, 1);
        gaps(two, 0);
    }

    static void p20FirstAndLastOfSixNodes() {
        AtomTables x = Check.table(Bounds.LOOSE);
        Bounds.six(x, 0);
        // each to itself by 2 and 2; each two by 1 2, 2 1, 2 2
        Check.due("how many", x.gap(0, -1), 6 + 15 * 3);
        Check.due("the first", x.gap(0, 0), 22);
        Check.due("the next", x.gap(0, 1), 112);
        Check.due("the last but one", x.gap(0, 49), 4522);
        Check.due("the last", x.gap(0, 50), 5522);
        Check.due("behind it", x.gap(0, 51), NONE);
        AtomTables y = Check.table("atoms 4");
        for (int t = 0; t < 27; t++) y.triangle(t / 9 + 1, t / 3 % 3 + 1, t % 3 + 1, 1);
        Bounds.six(y, 0);
        Check.due("the most", y.gap(0, -1), 6 * 2 + 15 * 8);
        Check.due("the greatest", y.gap(0, 131), 5533);
        Check.due("behind it", y.gap(0, 132), NONE);
        Check.due("rising by i, j, a, b", y.gap(0, 2) * 10000 + y.gap(0, 9), 1120133);
    }

    static void p20OnlyUpFromIToJ() {
        AtomTables x = Check.table(Bounds.ORDER);
        Bounds.nodes(x, 0, 0, 2);
        // 1 is ahead of 0
        gaps(x, 0, 12, 112, 121, 122, 1121);
    }

    static void p20NoSuchNetwork() {
        for (int net : Bounds.OUTSIDE) {
            Bounds.refused("gaps of " + net, Bounds::rich, y -> y.gap(net, -1), NONE);
            Bounds.refused("a gap of " + net, Bounds::rich, y -> y.gap(net, 0), NONE);
        }
        Bounds.refused("k below -1", Bounds::rich, y -> y.gap(0, -2), NONE);
        Bounds.refused("k behind all", Bounds::rich, y -> y.gap(0, 500), NONE);
    }

    // ---- 21: The k-th way to FILL a GAP; k -1: how many. NONE: net, k below -1, no such way; BAD; STATE; FULL.

    private static void ways(AtomTables x, int net, int gap, int... due) {
        Check.due("how many", x.fills(net, gap, -1), due.length);
        for (int k = 0; k < due.length; k++) Check.due("way " + k, x.fills(net, gap, k), due[k]);
        for (int k : new int[] {due.length, due.length + 1, MAX, -2, -3, MIN}) Check.due("no way " + k, x.fills(net, gap, k), NONE);
    }

    static void p21OneNode() {
        AtomTables x = Check.table(Bounds.ORDER);
        Bounds.nodes(x, 2, 0);
        ways(x, 2, 12, 1);
        ways(x, 2, 21, 2);
    }

    static void p21FirstAndLastWayOfFiveNodes() {
        AtomTables x = Check.table(Bounds.LOOSE);
        Bounds.nodes(x, 0, 0, 1, 11, 111, 1111);
        // i being j: four are free
        ways(x, 0, 22, 11112, 11122, 11212, 11222, 12112, 12122, 12212, 12222,
            21112, 21122, 21212, 21222, 22112, 22122, 22212, 22222);
        ways(x, 0, 4422, 21111, 21112, 21121, 21122, 21211, 21212, 21221, 21222,
            22111, 22112, 22121, 22122, 22211, 22212, 22221, 22222);
        ways(x, 0, 3421, 12111, 12112, 12121, 12122, 12211, 12212, 12221, 12222);
        ways(x, 0, 412, 21111, 21121, 21211, 21221, 22111, 22121, 22211, 22221);
    }

    static void p21NoWayAtAll() {
        AtomTables x = Check.table("atoms 3;in 1 1 1;in 2 2 2");
        Bounds.nodes(x, 0, 0, 1);
        // one that is 2 from 0 goes with no atom from 1
        ways(x, 0, 22);
        ways(x, 0, 111, 11);
        x.drop(0);
        ways(x, 0, 22, 2);
    }

    static void p21WhereForbiddenOccursThen() {
        AtomTables x = Check.table(Bounds.LOOSE);
        Bounds.nodes(x, 0, 0, 1);
        Bounds.nodes(x, 1, 0, 2);
        ways(x, 0, 22, 12, 22);
        x.forbid(1);
        ways(x, 0, 22);
        ways(x, 0, 111, 11);
        x.node(1, 22);
        x.forbid(1);
        ways(x, 0, 22, 12, 22);
        x.relabel(0, 0, 1, 2);
        ways(x, 0, 122);
        x.relabel(0, 0, 1, 1);
        x.drop(1);
        x.drop(1);
        x.forbid(1);
        ways(x, 0, 22);
        x.drop(1);
        x.forbid(1);
        ways(x, 0, 22, 12, 22);
    }

    static void p21NoGap() {
        AtomTables x = Check.table(Bounds.LOOSE);
        Bounds.nodes(x, 0, 0, 1, 11);
        Check.due("a gap", x.fills(0, 22, -1), 4);
        Check.due("the last gap", x.fills(0, 2222, -1), 4);
        // there already; not its converse; a 0; no such atom; no such node; downward; beyond; below 0
        int[] bad = {11, 111, 1211, 12, 21, 20, 2, 0, 23, 32, 33, 29, 322, 1322, 3322, 922, 1022, 2022, 2122,
            6622, 9922, 10022, 10122, 100022, 65536 + 22, -22, -1, -1122, MIN, MAX, MIN + 22};
        for (int gap : bad) {
            Check.due("no gap " + gap, x.fills(0, gap, -1), BAD);
            Check.due("no gap " + gap + ", first way", x.fills(0, gap, 0), BAD);
        }
        Check.due("without nodes", x.fills(1, 0, -1), BAD);
        Check.due("without nodes, 11", x.fills(1, 11, -1), BAD);
        Bounds.refused("no gap", Bounds::rich, y -> y.fills(0, 11, 0), BAD);
    }

    /** Each number that is no gap is none, also where its figures would run into one another. */
    static void p21AllNumbers() {
        for (int from = -400; from < 7200; from += 400) {
            AtomTables x = Check.table(Bounds.LOOSE);
            Bounds.nodes(x, 0, 0, 1, 11);
            for (int gap = from; gap < from + 400; gap++) {
                int i = gap / 1000;
                int j = gap / 100 % 10;
                boolean self = i == j && gap % 100 == 22;
                boolean two = i < j && (gap % 100 == 12 || gap % 100 == 21 || gap % 100 == 22);
                boolean is = gap > 0 && j < 3 && (self || two);
                Check.due("fills of " + gap, x.fills(0, gap, -1), is ? (self ? 4 : 2) : BAD);
            }
        }
    }

    static void p21NotSound() {
        AtomTables x = new AtomTables();
        Bounds.rich(x);
        Check.due("unsound", x.sound(2), 12);
        Check.due("STATE", x.fills(2, 33, -1), STATE);
        x.relabel(2, 0, 2, 1);
        Check.due("sound", x.fills(2, 21, -1), 1);
        Bounds.refused("not sound", Bounds::rich, y -> y.fills(2, 33, 0), STATE);
    }

    static void p21FullAtSix() {
        AtomTables x = Check.table(Bounds.LOOSE);
        Bounds.six(x, 0);
        Check.due("six", x.fills(0, 22, -1), FULL);
        x.drop(0);
        Check.due("five", x.fills(0, 22, -1), 16);
        Bounds.refused("six nodes", Bounds::rich, y -> y.fills(1, 21, 0), FULL);
    }

    static void p21WhichRefusalComesFirst() {
        for (int net : Bounds.OUTSIDE) {
            Bounds.refused("NONE: net, BAD", Bounds::rich, y -> y.fills(net, 9999, 0), NONE);
        }
        Bounds.refused("NONE: k, BAD", Bounds::rich, y -> y.fills(0, 9999, -2), NONE);
        Bounds.refused("NONE: k, STATE", Bounds::rich, y -> y.fills(2, 33, -2), NONE);
        Bounds.refused("NONE: k, FULL", Bounds::rich, y -> y.fills(1, 21, MIN), NONE);
        Bounds.refused("BAD, STATE", Bounds::rich, y -> y.fills(2, 11, -1), BAD);
        Bounds.refused("BAD, FULL", Bounds::rich, y -> y.fills(1, 11, -1), BAD);
        Bounds.refused("BAD, STATE, FULL", NetworksBoundsTest::sixUnsound, y -> y.fills(0, 11, -1), BAD);
        Bounds.refused("STATE, FULL", NetworksBoundsTest::sixUnsound, y -> y.fills(0, 3322, -1), STATE);
        Bounds.refused("BAD, no such way", Bounds::rich, y -> y.fills(0, 11, 99), BAD);
        Bounds.refused("STATE, no such way", Bounds::rich, y -> y.fills(2, 33, 99), STATE);
        Bounds.refused("FULL, no such way", Bounds::rich, y -> y.fills(1, 21, 99), FULL);
        Bounds.refused("no such way alone", Bounds::rich, y -> y.fills(0, 21, 99), NONE);
    }

    static void p21NothingIsPut() {
        Bounds.refused("how many", Bounds::rich, y -> y.fills(0, 21, -1), 1);
        Bounds.refused("the first", Bounds::rich, y -> y.fills(0, 21, 0), 222);
    }

    // ---- 22: The k-th way in which a NETWORK OCCURS in another one; k -1: how many. NONE. (Without NODES one: 0.)

    private static void lies(AtomTables x, int net, int other, int... due) {
        Check.due("how many", x.occurs(net, other, -1), due.length);
        for (int k = 0; k < due.length; k++) Check.due("way " + k, x.occurs(net, other, k), due[k]);
        for (int k : new int[] {due.length, due.length + 1, MAX, -2, -3, MIN}) {
            Check.due("no way " + k, x.occurs(net, other, k), NONE);
        }
    }

    static void p22WithoutNodes() {
        AtomTables x = new AtomTables();
        x.atoms(2);
        Bounds.six(x, 1);
        lies(x, 0, 2, 0);
        lies(x, 0, 0, 0);
        lies(x, 0, 1, 0);
        lies(x, 1, 0);
        // a single one has no place there
        for (int m = 6; m > 1; m--) x.drop(1);
        lies(x, 1, 0);
        lies(x, 0, 1, 0);
    }

    static void p22MoreNodesThanTheOther() {
        AtomTables x = new AtomTables();
        x.atoms(2);
        Bounds.nodes(x, 0, 0);
        Bounds.nodes(x, 1, 0, 1);
        Bounds.six(x, 2);
        lies(x, 1, 0);
        lies(x, 2, 1);
        lies(x, 0, 0, 1);
        lies(x, 1, 1, 12, 21);
        lies(x, 0, 2, 1, 2, 3, 4, 5, 6);
    }

    static void p22SixInSix() {
        AtomTables x = Check.table(Bounds.ORDER);
        Bounds.six(x, 0);
        Bounds.nodes(x, 1, 0, 2, 22, 222, 2222, 22222);
        lies(x, 0, 0, 654321);
        lies(x, 0, 1, 123456);
        x.relabel(1, 0, 5, 1);
        lies(x, 0, 1);
        AtomTables y = Check.table("atoms 2");
        Bounds.six(y, 0);
        Check.due("all orders", y.occurs(0, 0, -1), 720);
        Check.due("the first", y.occurs(0, 0, 0), 123456);
        Check.due("the last", y.occurs(0, 0, 719), 654321);
        Check.due("behind it", y.occurs(0, 0, 720), NONE);
    }

    static void p22NoSuchNetwork() {
        for (int bad : Bounds.OUTSIDE) {
            Bounds.refused("occurs: net", Bounds::rich, y -> y.occurs(bad, 0, -1), NONE);
            Bounds.refused("occurs: other", Bounds::rich, y -> y.occurs(0, bad, -1), NONE);
            Bounds.refused("occurs: both", Bounds::rich, y -> y.occurs(bad, bad, 0), NONE);
        }
        Bounds.refused("k below -1", Bounds::rich, y -> y.occurs(0, 0, -2), NONE);
        Bounds.refused("no such way", Bounds::rich, y -> y.occurs(0, 0, 1), NONE);
    }

    // ---- 23: FORBIDDEN becomes a copy of a NETWORK (net -1: none): how many it had (NOT: it was none). NONE.

    static void p23NoneEmptyAndFull() {
        AtomTables x = new AtomTables();
        x.atoms(2);
        Bounds.six(x, 0);
        Bounds.nodes(x, 2, 0);
        Check.due("it was none", x.forbid(-1), NOT);
        Check.due("it was none still", x.forbid(0), NOT);
        Check.due("six", x.count(4), 6);
        Check.due("it had six", x.forbid(1), 6);
        Check.due("without nodes", x.count(4), 0);
        Check.due("it had no nodes, but was", x.forbid(2), 0);
        Check.due("it had one", x.forbid(2), 1);
        Check.due("it had one still", x.forbid(-1), 1);
        Check.due("it was none", x.forbid(1), NOT);
        Check.due("it had no nodes", x.forbid(-1), 0);
        Check.due("it was none", x.forbid(-1), NOT);
    }

    static void p23ACopy() {
        AtomTables x = Check.table(Bounds.LOOSE);
        Bounds.nodes(x, 0, 0, 2);
        x.forbid(0);
        x.relabel(0, 0, 1, 1);
        Check.due("forbidden is 2, not 1", x.begin(0) >= 0 ? 1 : 0, 1);
        x.relabel(0, 0, 1, 2);
        Check.due("forbidden is 2", x.begin(0), STATE);
        x.drop(0);
        Check.due("two nodes it has", x.count(4), 2);
    }

    static void p23WithoutNodesItDoesNotOccur() {
        AtomTables x = Check.table(Bounds.CLIQUE);
        Bounds.nodes(x, 0, 0, 1);
        x.forbid(1);
        Check.due("begin", x.begin(0), 1);
        Check.due("won", x.won(0, 1), 1);
        Check.due("fills", x.fills(0, 111, 0), 11);
        Check.due("answer", x.answer(11), 0);
        Check.due("nor in one without nodes", x.begin(2), 0);
    }

    static void p23NoSuchNetwork() {
        for (int bad : new int[] {-2, 3, 4, MIN, MAX}) {
            Bounds.refused("forbid " + bad, Bounds::rich, y -> y.forbid(bad), NONE);
            Bounds.refused("forbid " + bad + ", where it is none", Bounds::fresh, y -> y.forbid(bad), NONE);
        }
    }
}
