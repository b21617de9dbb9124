/** The boundary cases of promises 9 to 14, sentence by sentence. */
public final class EdgesOfLeavesTest {
    private static final Edges EDGES = new Edges();
    private static final int[] FAR = {Integer.MIN_VALUE, -1000, 1000, Integer.MAX_VALUE};
    // What is no NAME: no number, a number behind the end, numbers that are not 0 to 9.
    private static final int[][] NO_NAMES = {
        {-1, -1, -1, -1}, {-1, 0, -1, -1}, {-1, 1, 1, 1}, {1, -1, 0, -1}, {1, -1, -1, 0}, {1, -1, 0, 0}, {1, 1, -1, 0},
        {-1, -1, -1, 1}, {10, 1, 0, 1}, {1, 10, 0, 1}, {1, 1, 10, 1}, {1, 1, 0, 10}, {-2, 1, 0, 1}, {1, -2, 0, 1},
        {1, 1, -2, 1}, {1, 1, 0, -2}, {1, -2, -1, -1}, {1, 1, -2, -1}, {1, 1, 0, 15}, {1, 1, 0, 16}, {0, 17, 0, -1},
        {Integer.MIN_VALUE, 1, 0, 1}, {1, Integer.MAX_VALUE, 0, 1}, {1, 1, Integer.MIN_VALUE, 1}, {1, 1, 0, Integer.MAX_VALUE},
    };
    private static final int[][] NAMES = {
        {1, 1, 0, 1}, {1, 1, 0, 9}, {1, 1, 1, 1}, {1, 1, 3, 1}, {1, 2, 0, -1}, {9, 9, 0, -1},
    };

    public static void main(String[] args) {
        nothingIsChanged();
        noNames();
        shortestAndLongestNames();
        leavesOfSinglesAndCounters();
        leavesOfTables();
        numbering();
        toldOfWhich();
        toldWhat();
        nextOfAny();
        orderOfNames();
        manyAndRoom();
        roomOfLeaf();
        roomTogether();
        walksRooms();
        walkWithoutLeaves();
        walkThatDoesNotGo();
        walksCounts();
        havingWhich();
        havingValues();
        mostLeaves();
        EDGES.end("EdgesOfLeavesTest");
    }

    /** The six leaves of NAMES, values 1 3 0 99 0 42: row 1 rests with column 2 unfilled, row 9 is UNREADY. */
    private static LeafAsks six() {
        LeafAsks x = Check.of("n9 9 0 99 42;c1 2 4;t1 1 3;");
        Check.orders(x, "1.1.0.1=4;1.1.0.1=2;1.1.1.1=0;1.1.3.1=99;1.1.0.9=5;");
        Check.orders(x, "1.1.0.1=1;");
        return x;
    }

    private static int leaf(LeafAsks x, int[] n) {
        return x.leaf(n[0], n[1], n[2], n[3]);
    }

    private static int next(LeafAsks x, int[] n) {
        return x.next(n[0], n[1], n[2], n[3]);
    }

    private static String said(int[] n) {
        return n[0] + ", " + n[1] + ", " + n[2] + ", " + n[3];
    }

    private static void nothingIsChanged() {
        EDGES.sentence(9, "(Nothing is changed.)");
        EDGES.asked("leaf(3, 1, 0, -1)", x -> x.leaf(3, 1, 0, -1), 5);
        EDGES.asked("leaf(3, 1, 0, 0)", x -> x.leaf(3, 1, 0, 0), LeafAsks.NONE);
        EDGES.sentence(10, "(Nothing is changed.)");
        EDGES.asked("told(5, 4)", x -> x.told(5, 4), 30);
        EDGES.sentence(11, "(Nothing is changed.)");
        EDGES.asked("next(3, 1, 0, -1)", x -> x.next(3, 1, 0, -1), 6);
        EDGES.asked("next(9, 9, 9, 9)", x -> x.next(9, 9, 9, 9), LeafAsks.NONE);
        EDGES.sentence(12, "(Nothing is changed.)");
        EDGES.asked("bulk(3, 1, 0, -1, 99, 999)", x -> x.bulk(3, 1, 0, -1, 99, 999), 5);
        EDGES.sentence(13, "(Nothing is changed.)");
        EDGES.asked("walk(999)", x -> x.walk(999), 1);
        EDGES.asked("walk(5)", x -> x.walk(5), LeafAsks.NONE);
        EDGES.sentence(14, "(Nothing is changed.)");
        EDGES.asked("having(99, 0)", x -> x.having(99, 0), 10);
        EDGES.asked("having(99, -1)", x -> x.having(99, -1), 1);
        EDGES.asked("having(99, 1)", x -> x.having(99, 1), LeafAsks.NONE);
    }

    private static void noNames() {
        for (int[] n : NO_NAMES) {
            EDGES.sentence(9, "The number of the LEAF of a NAME (its numbers; -1 behind its last one); NONE. BAD (no NAME).");
            EDGES.refused("leaf(" + said(n) + ")", x -> leaf(x, n), LeafAsks.BAD);
            EDGES.due("leaf(" + said(n) + ") of a new object", leaf(new LeafAsks(), n), LeafAsks.BAD);
            EDGES.sentence(11, "NEXT; NONE. BAD (no NAME).");
            EDGES.refused("next(" + said(n) + ")", x -> next(x, n), LeafAsks.BAD);
            EDGES.due("next(" + said(n) + ") of a new object", next(new LeafAsks(), n), LeafAsks.BAD);
            EDGES.sentence(12, "of a room (0 .. 999). BAD.");
            EDGES.refused("bulk(" + said(n) + ", 1, 9)", x -> x.bulk(n[0], n[1], n[2], n[3], 1, 9), LeafAsks.BAD);
        }
    }

    private static void shortestAndLongestNames() {
        EDGES.sentence(9, "A NAME is a row of 1 to 4 numbers 0 to 9.");
        LeafAsks x = six();
        int[][] names = {{0, -1, -1, -1}, {9, -1, -1, -1}, {0, 0, -1, -1}, {9, 9, -1, -1}, {0, 0, 0, -1}, {9, 9, 9, -1},
            {0, 0, 0, 0}, {9, 9, 9, 9}, {9, 9, 0, 0}, {9, 9, 0, 9}};
        for (int[] n : names) {
            EDGES.due("leaf(" + said(n) + ")", leaf(x, n), LeafAsks.NONE);
        }
        EDGES.due("leaf of three numbers", x.leaf(9, 9, 0, -1), 5);
        EDGES.due("leaf of four numbers", x.leaf(1, 1, 0, 9), 1);
        EDGES.due("leaf of a new object", new LeafAsks().leaf(1, 1, 0, -1), LeafAsks.NONE);
    }

    private static void leavesOfSinglesAndCounters() {
        EDGES.sentence(9, "of a SINGLE, a COUNTER: its NAME and a number 0 behind it");
        LeafAsks x = six();
        for (int[] branch : new int[][] {{1, 2, 4}, {9, 9, 5}}) {
            int a = branch[0];
            int b = branch[1];
            EDGES.due("its name alone", x.leaf(a, b, -1, -1), LeafAsks.NONE);
            EDGES.due("a 0 behind it", x.leaf(a, b, 0, -1), branch[2]);
            EDGES.due("a 1 behind it", x.leaf(a, b, 1, -1), LeafAsks.NONE);
            EDGES.due("two 0 behind it", x.leaf(a, b, 0, 0), LeafAsks.NONE);
            EDGES.due("0 and 1 behind it", x.leaf(a, b, 0, 1), LeafAsks.NONE);
        }
    }

    private static void leavesOfTables() {
        EDGES.sentence(9, "its NAME, a column (0 to how many COLUMNS it has), a ROW (1 to 9)");
        for (int columns = 1; columns <= 3; columns++) {
            LeafAsks x = Check.of("t1 1 " + columns + ";");
            for (int row = 1; row <= 9; row += 8) {
                Check.orders(x, "1.1.0." + row + "=5;");
                for (int column = 1; column <= columns; column++) {
                    Check.orders(x, "1.1." + column + "." + row + "=7;");
                }
            }
            for (int column = 0; column <= 4; column++) {
                for (int row = 0; row <= 9; row++) {
                    boolean there = column <= columns && (row == 1 || row == 9);
                    int due = !there ? LeafAsks.NONE : 2 * column + (row == 9 ? 1 : 0);
                    EDGES.due("leaf(1, 1, " + column + ", " + row + ") of " + columns, x.leaf(1, 1, column, row), due);
                }
                EDGES.due("a column without a row", x.leaf(1, 1, column, -1), LeafAsks.NONE);
            }
        }
        EDGES.sentence(9, "of each other column the CELL is a LEAF if it has a value (0 to 99)");
        LeafAsks x = Check.of("t1 1 2;");
        Check.orders(x, "1.1.0.4=5;");
        EDGES.due("a status alone", x.count(2), 1);
        EDGES.due("column 1 without a value", x.leaf(1, 1, 1, 4), LeafAsks.NONE);
        Check.orders(x, "1.1.1.4=0;");
        EDGES.due("column 1 with 0", x.leaf(1, 1, 1, 4), 1);
        EDGES.due("column 2 without a value", x.leaf(1, 1, 2, 4), LeafAsks.NONE);
        Check.orders(x, "1.1.2.4=99;");
        EDGES.due("column 2 with 99", x.leaf(1, 1, 2, 4), 2);
        EDGES.due("its value", x.told(2, 4), 99);
        Check.orders(x, "1.1.0.4=6;");
        EDGES.due("no leaf of a row that is gone", x.count(2), 0);
        EDGES.due("nor its status", x.leaf(1, 1, 0, 4), LeafAsks.NONE);
    }

    private static void numbering() {
        EDGES.sentence(9, "LEAVES are numbered from 0 by their NAMES' order");
        LeafAsks x = six();
        EDGES.due("count(2)", x.count(2), NAMES.length);
        for (int k = 0; k < NAMES.length; k++) {
            EDGES.due("leaf(" + said(NAMES[k]) + ")", leaf(x, NAMES[k]), k);
        }
        LeafAsks told = Check.of("c9 9 1;c9 1 1;c1 9 1;c1 1 1;c5 5 1;c5 4 1;c4 5 1;c4 4 1;");
        int[][] names = {{1, 1}, {1, 9}, {4, 4}, {4, 5}, {5, 4}, {5, 5}, {9, 1}, {9, 9}};
        for (int k = 0; k < names.length; k++) {
            EDGES.due("counter " + k, told.leaf(names[k][0], names[k][1], 0, -1), k);
            EDGES.due("its first number", told.told(k, 0), names[k][0]);
            EDGES.due("its second number", told.told(k, 1), names[k][1]);
        }
    }

    private static void toldOfWhich() {
        EDGES.sentence(10, "Of the k-th LEAF");
        LeafAsks x = six();
        for (int what = 0; what <= 5; what++) {
            EDGES.due("told(-1, " + what + ")", x.told(-1, what), -5);
            EDGES.due("told(6, " + what + ")", x.told(6, what), -5);
            EDGES.due("told(0, " + what + ") of none", new LeafAsks().told(0, what), -5);
        }
        EDGES.due("told(0, 3)", x.told(0, 3), 1);
        EDGES.due("told(5, 4)", x.told(5, 4), 42);
        Check.orders(x, "1.1.0.9=6;");
        EDGES.due("told(4, 4) of five", x.told(4, 4), 42);
        EDGES.due("told(5, 4) of five", x.told(5, 4), -5);
        EDGES.sentence(10, "-5: BAD.");
        for (int far : FAR) {
            EDGES.refused("told(" + far + ", 0)", y -> y.told(far, 0), -5);
            EDGES.refused("told(0, " + far + ")", y -> y.told(0, far), -5);
        }
        EDGES.refused("told(-1, 4)", y -> y.told(-1, 4), -5);
        EDGES.refused("told(11, 4)", y -> y.told(11, 4), -5);
    }

    private static void toldWhat() {
        EDGES.sentence(10, "0 to 3 the numbers of its NAME (-1: it has ended), 4 its value, 5 what it is "
            + "(0 a SINGLE's, 1 a COUNTER's, 2 a STATUS, 3 another CELL)");
        LeafAsks x = six();
        int[] values = {1, 3, 0, 99, 0, 42};
        int[] kinds = {2, 2, 3, 3, 1, 0};
        for (int k = 0; k < NAMES.length; k++) {
            EDGES.due("told(" + k + ", -1)", x.told(k, -1), -5);
            for (int what = 0; what < 4; what++) {
                EDGES.due("told(" + k + ", " + what + ")", x.told(k, what), NAMES[k][what]);
            }
            EDGES.due("told(" + k + ", 4)", x.told(k, 4), values[k]);
            EDGES.due("told(" + k + ", 5)", x.told(k, 5), kinds[k]);
            EDGES.due("told(" + k + ", 6)", x.told(k, 6), -5);
        }
    }

    private static void nextOfAny() {
        EDGES.sentence(11, "NEXT of a NAME (any; it needn't be a LEAF's): the number of the first LEAF behind it in order; NONE.");
        LeafAsks x = six();
        for (int k = 0; k < NAMES.length; k++) {
            EDGES.due("next(" + said(NAMES[k]) + ")", next(x, NAMES[k]), k == 5 ? LeafAsks.NONE : k + 1);
        }
        int[][] due = {{0, -1, -1, -1, 0}, {0, 9, 9, 9, 0}, {1, -1, -1, -1, 0}, {1, 1, -1, -1, 0}, {1, 1, 0, -1, 0},
            {1, 1, 0, 0, 0}, {1, 1, 0, 2, 1}, {1, 1, 0, 8, 1}, {1, 1, 1, -1, 2}, {1, 1, 1, 0, 2}, {1, 1, 1, 2, 3},
            {1, 1, 2, 9, 3}, {1, 1, 3, 0, 3}, {1, 1, 3, 2, 4}, {1, 1, 9, 9, 4}, {1, 2, -1, -1, 4}, {1, 2, 0, 0, 5},
            {1, 2, 0, 9, 5}, {1, 3, -1, -1, 5}, {2, -1, -1, -1, 5}, {9, -1, -1, -1, 5}, {9, 8, 9, 9, 5}, {9, 9, -1, -1, 5}};
        for (int[] d : due) {
            EDGES.due("next(" + said(d) + ")", next(x, d), d[4]);
        }
        for (int[] n : new int[][] {{9, 9, 0, 0}, {9, 9, 0, 9}, {9, 9, 1, -1}, {9, 9, 9, 9}}) {
            EDGES.due("next(" + said(n) + ")", next(x, n), LeafAsks.NONE);
        }
        EDGES.due("next of a new object", new LeafAsks().next(0, -1, -1, -1), LeafAsks.NONE);
        EDGES.due("next of a table without rows", Check.of("t1 1 1;").next(0, -1, -1, -1), LeafAsks.NONE);
    }

    private static void orderOfNames() {
        EDGES.sentence(11, "that is ahead which has the lesser number where they differ first, "
            + "or which ends where the other one goes on");
        LeafAsks x = Check.of("c2 2 1;");
        int[][] ahead = {{1, 9, 9, 9}, {2, -1, -1, -1}, {2, 1, 9, 9}, {2, 2, -1, -1}, {0, -1, -1, -1}};
        for (int[] n : ahead) {
            EDGES.due("ahead of 2.2.0: next(" + said(n) + ")", next(x, n), 0);
        }
        int[][] notAhead = {{2, 2, 0, -1}, {2, 2, 0, 0}, {2, 2, 1, -1}, {2, 3, -1, -1}, {3, -1, -1, -1}, {2, 3, 0, 0}, {3, 0, 0, 0}};
        for (int[] n : notAhead) {
            EDGES.due("not ahead of 2.2.0: next(" + said(n) + ")", next(x, n), LeafAsks.NONE);
        }
    }

    private static void manyAndRoom() {
        EDGES.sentence(12, "BULK of so many (0 .. 99), of a room (0 .. 999). BAD.");
        int[] wrong = {-1, 100, 1000, -1000, Integer.MIN_VALUE, Integer.MAX_VALUE};
        for (int many : wrong) {
            EDGES.refused("many " + many, x -> x.bulk(1, -1, -1, -1, many, 99), LeafAsks.BAD);
        }
        for (int room : new int[] {-1, 1000, -1000, Integer.MIN_VALUE, Integer.MAX_VALUE}) {
            EDGES.refused("room " + room, x -> x.bulk(1, -1, -1, -1, 9, room), LeafAsks.BAD);
        }
        LeafAsks x = six();
        int[][] due = {{0, 0, 0}, {0, 999, 0}, {1, 999, 1}, {5, 999, 5}, {6, 999, 6}, {7, 999, 6}, {99, 999, 6}, {99, 0, 0},
            {1, 0, 0}, {99, 1, 0}};
        for (int[] d : due) {
            EDGES.due("bulk of " + d[0] + ", of room " + d[1], x.bulk(0, -1, -1, -1, d[0], d[1]), d[2]);
        }
        EDGES.sentence(12, "from NEXT on, one behind another");
        for (int k = 0; k < NAMES.length; k++) {
            int[] n = NAMES[k];
            EDGES.due("bulk behind leaf " + k, x.bulk(n[0], n[1], n[2], n[3], 99, 999), 5 - k);
            EDGES.due("two behind leaf " + k, x.bulk(n[0], n[1], n[2], n[3], 2, 999), Math.min(2, 5 - k));
        }
        EDGES.due("just ahead of the first leaf", x.bulk(1, 1, 0, 0, 99, 999), 6);
        EDGES.due("just ahead of the second leaf", x.bulk(1, 1, 0, 8, 99, 999), 5);
        EDGES.due("just ahead of the last leaf", x.bulk(9, 9, -1, -1, 99, 999), 1);
        EDGES.due("just behind the last leaf", x.bulk(9, 9, 0, 0, 99, 999), 0);
        EDGES.due("bulk of a new object", new LeafAsks().bulk(0, -1, -1, -1, 99, 999), 0);
    }

    private static void roomOfLeaf() {
        EDGES.sentence(12, "ROOM of a LEAF: how many numbers its NAME has, and how many figures its value has, together.");
        int[][] due = {{0, 4}, {1, 4}, {9, 4}, {10, 5}, {11, 5}, {99, 5}, {100, 6}, {101, 6}, {999, 6}};
        for (int[] d : due) {
            LeafAsks x = Check.of("c1 1 1;");
            for (int left = d[0]; left > 0; left -= 99) {
                x.ticks(Math.min(99, left));
            }
            dueRoom("a counter of " + d[0], x, d[1]);
            EDGES.due("walk of a counter of " + d[0], x.walk(d[1]), 1);
            EDGES.due("walk by one less", x.walk(d[1] - 1), LeafAsks.NONE);
        }
        for (int value : new int[] {0, 9, 10, 99}) {
            dueRoom("a single of " + value, Check.of("n1 1 0 99 " + value + ";"), value < 10 ? 4 : 5);
            LeafAsks cell = Check.of("t1 1 1;");
            Check.orders(cell, "1.1.0.1=5;1.1.1.1=" + value + ";");
            int room = value < 10 ? 5 : 6;
            EDGES.due("a cell of " + value, cell.bulk(1, 1, 0, 1, 1, room), 1);
            EDGES.due("a cell of " + value + ", one less", cell.bulk(1, 1, 0, 1, 1, room - 1), 0);
        }
        LeafAsks status = Check.of("t1 1 1;");
        Check.orders(status, "1.1.0.1=5;");
        dueRoom("a status", status, 5);
    }

    /** The first leaf goes into a room, not into one less. */
    private static void dueRoom(String what, LeafAsks x, int room) {
        EDGES.due(what + ", room " + room, x.bulk(0, -1, -1, -1, 99, room), 1);
        EDGES.due(what + ", room " + (room - 1), x.bulk(0, -1, -1, -1, 99, room - 1), 0);
    }

    /** ROOMS of six(): 5 5 5 6 4 5. */
    private static void roomTogether() {
        EDGES.sentence(12, "so many at most, while their ROOM together is no more than the room");
        LeafAsks x = six();
        int[] together = {5, 10, 15, 21, 25, 30};
        for (int k = 0; k < together.length; k++) {
            EDGES.due("room " + (together[k] - 1), x.bulk(0, -1, -1, -1, 99, together[k] - 1), k);
            EDGES.due("room " + together[k], x.bulk(0, -1, -1, -1, 99, together[k]), k + 1);
            EDGES.due("room " + (together[k] + 1), x.bulk(0, -1, -1, -1, 99, together[k] + 1), k + 1);
            EDGES.due("so many, room " + together[k], x.bulk(0, -1, -1, -1, k, together[k]), k);
        }
        EDGES.due("none is left out for one that would go in", x.bulk(1, 1, 1, 1, 99, 5), 0);
        EDGES.due("from the fourth on", x.bulk(1, 1, 1, 1, 99, 10), 2);
    }

    private static void walksRooms() {
        EDGES.sentence(13, "WALK by a room (0 .. 999); NONE. BAD.");
        for (int room : new int[] {-1, 1000, -1000, Integer.MIN_VALUE, Integer.MAX_VALUE}) {
            EDGES.refused("walk(" + room + ")", x -> x.walk(room), LeafAsks.BAD);
            EDGES.due("walk(" + room + ") without leaves", new LeafAsks().walk(room), LeafAsks.BAD);
        }
        LeafAsks x = six();
        EDGES.due("walk(0)", x.walk(0), LeafAsks.NONE);
        EDGES.due("walk(1)", x.walk(1), LeafAsks.NONE);
        EDGES.due("walk(998)", x.walk(998), 1);
        EDGES.due("walk(999)", x.walk(999), 1);
    }

    private static void walkWithoutLeaves() {
        EDGES.sentence(13, "0 without LEAVES");
        for (int room : new int[] {0, 1, 4, 999}) {
            EDGES.due("walk(" + room + ") of a new object", new LeafAsks().walk(room), 0);
            EDGES.due("walk(" + room + ") of tables without rows", Check.of("t1 1 1;t1 2 3;").walk(room), 0);
        }
        LeafAsks gone = Check.of("t1 1 1;");
        Check.orders(gone, "1.1.0.1=5;");
        EDGES.due("walk(0) of one", gone.walk(0), LeafAsks.NONE);
        EDGES.due("walk(5) of one", gone.walk(5), 1);
        Check.orders(gone, "1.1.0.1=6;");
        EDGES.due("walk(0) of one that is gone", gone.walk(0), 0);
    }

    private static void walkThatDoesNotGo() {
        EDGES.sentence(13, "NONE, if a LEAF does not go into it");
        String[] branches = {"n1 1 0 99 10;n1 2 0 99 1;n1 3 0 99 1;", "n1 1 0 99 1;n1 2 0 99 10;n1 3 0 99 1;",
            "n1 1 0 99 1;n1 2 0 99 1;n1 3 0 99 10;"};
        for (int i = 0; i < branches.length; i++) {
            LeafAsks x = Check.of(branches[i]);
            EDGES.due("walk(3), the larger one at " + i, x.walk(3), LeafAsks.NONE);
            EDGES.due("walk(4), the larger one at " + i, x.walk(4), LeafAsks.NONE);
            EDGES.due("walk(5), the larger one at " + i, x.walk(5), 3);
        }
    }

    private static void walksCounts() {
        EDGES.sentence(13, "how many BULKS of that room (of 99 each) it takes till all LEAVES were answered, "
            + "each going on behind the last LEAF answered");
        LeafAsks x = six();
        int[][] due = {{5, LeafAsks.NONE}, {6, 6}, {8, 6}, {9, 5}, {10, 4}, {11, 3}, {14, 3}, {15, 2}, {24, 2}, {25, 2}, {29, 2}, {30, 1},
            {31, 1}};
        for (int[] d : due) {
            EDGES.due("walk(" + d[0] + ")", x.walk(d[0]), d[1]);
        }
    }

    private static void havingWhich() {
        EDGES.sentence(14, "The k-th LEAF (0 on, by its number) that has a value; how many there are (k = -1); "
            + "NONE: not so many. BAD (k below -1).");
        for (int k : new int[] {-2, -3, -1000, Integer.MIN_VALUE}) {
            EDGES.refused("having(0, " + k + ")", x -> x.having(0, k), LeafAsks.BAD);
            EDGES.due("having(0, " + k + ") without leaves", new LeafAsks().having(0, k), LeafAsks.BAD);
        }
        LeafAsks x = six();
        EDGES.due("having(0, -1)", x.having(0, -1), 2);
        EDGES.due("having(0, 0)", x.having(0, 0), 2);
        EDGES.due("having(0, 1)", x.having(0, 1), 4);
        EDGES.due("having(0, 2)", x.having(0, 2), LeafAsks.NONE);
        EDGES.due("having(0, 3)", x.having(0, 3), LeafAsks.NONE);
        EDGES.due("having(0, the most)", x.having(0, Integer.MAX_VALUE), LeafAsks.NONE);
        EDGES.due("the first leaf's value", x.having(1, 0), 0);
        EDGES.due("how many have the first leaf's value", x.having(1, -1), 1);
        EDGES.due("the last leaf's value", x.having(42, 0), 5);
        EDGES.due("one has it", x.having(42, -1), 1);
        EDGES.due("no second one has it", x.having(42, 1), LeafAsks.NONE);
        EDGES.due("none has it", x.having(41, -1), 0);
        EDGES.due("the first of none", x.having(41, 0), LeafAsks.NONE);
        EDGES.due("having(0, -1) without leaves", new LeafAsks().having(0, -1), 0);
        EDGES.due("having(0, 0) without leaves", new LeafAsks().having(0, 0), LeafAsks.NONE);
    }

    private static void havingValues() {
        EDGES.sentence(14, "that has a value");
        LeafAsks x = six();
        for (int value : new int[] {-1, -2, 100, 1000, Integer.MIN_VALUE, Integer.MAX_VALUE}) {
            EDGES.due("how many have " + value, x.having(value, -1), 0);
            EDGES.due("the first that has " + value, x.having(value, 0), LeafAsks.NONE);
        }
        EDGES.due("a value 99", x.having(99, 0), 3);
        EDGES.due("a status 3", x.having(3, 0), 1);
        LeafAsks counter = Check.of("c1 1 9;");
        counter.ticks(99);
        counter.ticks(12);
        EDGES.due("a value 999", counter.having(999, 0), 0);
        counter.ticks(1);
        EDGES.due("a value 999 that went over", counter.having(999, 0), LeafAsks.NONE);
        EDGES.due("what is left over", counter.having(8, 0), 0);
    }

    /** 42 LEAVES, about as many as 512 calls can make: 6 COUNTERS behind a TABLE of 9 ROWS, 4 columns. */
    private static void mostLeaves() {
        EDGES.sentence(12, "how many LEAVES, from NEXT on, one behind another, are answered");
        LeafAsks x = new LeafAsks();
        Check.type(x, "t9 9 3;c5 1 1;c5 2 1;c5 3 1;c5 4 1;c5 5 1;c5 6 1;");
        x.branches();
        for (int row = 1; row <= 9; row++) {
            Check.type(x, "9.9.0." + row + "=5;9.9.1." + row + "=99;9.9.2." + row + "=99;9.9.3." + row + "=99;");
            EDGES.due("row " + row, x.orders(), 4);
        }
        EDGES.due("count(2)", x.count(2), 42);
        EDGES.due("all of them", x.bulk(0, -1, -1, -1, 99, 999), 42);
        EDGES.due("42 of them", x.bulk(0, -1, -1, -1, 42, 999), 42);
        EDGES.due("41 of them", x.bulk(0, -1, -1, -1, 41, 999), 41);
        EDGES.due("just their room", x.bulk(0, -1, -1, -1, 99, 231), 42);
        EDGES.due("one less", x.bulk(0, -1, -1, -1, 99, 230), 41);
        EDGES.due("walk by just their room", x.walk(231), 1);
        EDGES.due("walk by one less", x.walk(230), 2);
        EDGES.due("walk one by one", x.walk(6), 42);
        EDGES.due("the last leaf", x.leaf(9, 9, 3, 9), 41);
        EDGES.due("behind the last leaf", x.next(9, 9, 3, 9), LeafAsks.NONE);
        EDGES.due("ahead of the last leaf", x.next(9, 9, 3, 8), 41);
        EDGES.due("told(41, 4)", x.told(41, 4), 99);
        EDGES.due("told(42, 4)", x.told(42, 4), -5);
        EDGES.due("how many have 99", x.having(99, -1), 27);
        EDGES.due("the last that has 99", x.having(99, 26), 41);
        EDGES.due("one more", x.having(99, 27), LeafAsks.NONE);
    }
}
