/** Promises 9 to 14: leaves by name, the next one, as many as go into a room, walks, values. */
public final class LeavesTest {
    private static final Check CHECK = new Check();
    private static final int[][] WRONG_NAMES = {
        {-1, -1, -1, -1}, {-1, 1, 1, 1}, {1, -1, 2, -1}, {1, 1, -1, 0}, {1, -1, -1, 3}, {10, 0, 0, 0},
        {0, 10, 0, 0}, {0, 0, 10, 0}, {0, 0, 0, 10}, {-2, -1, -1, -1}, {1, -2, -1, -1}, {1, 1, -2, -1},
        {1, 1, 1, -2}, {Integer.MIN_VALUE, 0, 0, 0}, {1, Integer.MAX_VALUE, 0, 0},
    };

    public static void main(String[] args) {
        names();
        told();
        next();
        bulk();
        walk();
        having();
        allLeaves();
        CHECK.end("LeavesTest");
    }

    /** Leaves: 1.1.0.2=1 1.1.0.9=3 1.1.1.2=0 1.1.1.9=7 1.1.2.2=10 1.2.0=0 2.1.0=9 9.9.0=99. */
    private static LeafAsks eight() {
        LeafAsks x = Check.of("n9 9 0 99 99;n2 1 5 30 9;t1 1 2;c1 2 7;t1 9 1;");
        Check.orders(x, "1.1.0.9=5;1.1.1.9=7;1.1.0.2=4;1.1.1.2=0;1.1.2.2=10;");
        return x;
    }

    private static void names() {
        LeafAsks x = eight();
        for (int[] n : WRONG_NAMES) {
            CHECK.due("leaf of no name", x.leaf(n[0], n[1], n[2], n[3]), LeafAsks.BAD);
            CHECK.due("next of no name", x.next(n[0], n[1], n[2], n[3]), LeafAsks.BAD);
            CHECK.due("bulk of no name", x.bulk(n[0], n[1], n[2], n[3], 1, 1), LeafAsks.BAD);
        }
        CHECK.due("leaf 1.1.0.2", x.leaf(1, 1, 0, 2), 0);
        CHECK.due("leaf 1.1.0.9", x.leaf(1, 1, 0, 9), 1);
        CHECK.due("leaf 1.1.1.9", x.leaf(1, 1, 1, 9), 3);
        CHECK.due("leaf 1.1.2.9 is unfilled", x.leaf(1, 1, 2, 9), LeafAsks.NONE);
        CHECK.due("leaf 1.1.3.2 is no column", x.leaf(1, 1, 3, 2), LeafAsks.NONE);
        CHECK.due("leaf 1.1.0.1 is no row", x.leaf(1, 1, 0, 1), LeafAsks.NONE);
        CHECK.due("leaf 1.2.0", x.leaf(1, 2, 0, -1), 5);
        CHECK.due("leaf 1.2", x.leaf(1, 2, -1, -1), LeafAsks.NONE);
        CHECK.due("leaf 1.2.0.0", x.leaf(1, 2, 0, 0), LeafAsks.NONE);
        CHECK.due("leaf 9.9.0", x.leaf(9, 9, 0, -1), 7);
        CHECK.due("leaf 0", x.leaf(0, -1, -1, -1), LeafAsks.NONE);
    }

    private static void told() {
        LeafAsks x = eight();
        int[][] due = {
            {1, 1, 0, 2, 1, 2}, {1, 1, 0, 9, 3, 2}, {1, 1, 1, 2, 0, 3}, {1, 1, 1, 9, 7, 3},
            {1, 1, 2, 2, 10, 3}, {1, 2, 0, -1, 0, 1}, {2, 1, 0, -1, 9, 0}, {9, 9, 0, -1, 99, 0},
        };
        CHECK.due("count(2)", x.count(2), due.length);
        for (int k = 0; k < due.length; k++) {
            for (int what = 0; what < 6; what++) {
                CHECK.due("told(" + k + ", " + what + ")", x.told(k, what), due[k][what]);
            }
        }
        int[][] wrong = {{-1, 0}, {8, 0}, {0, -1}, {0, 6}, {Integer.MAX_VALUE, 4}, {0, Integer.MIN_VALUE}};
        for (int[] w : wrong) {
            CHECK.due("told(" + w[0] + ", " + w[1] + ")", x.told(w[0], w[1]), -5);
        }
    }

    private static void next() {
        LeafAsks x = eight();
        CHECK.due("next of 0", x.next(0, -1, -1, -1), 0);
        CHECK.due("next of 1", x.next(1, -1, -1, -1), 0);
        CHECK.due("next of 1.1.0.1", x.next(1, 1, 0, 1), 0);
        CHECK.due("next of 1.1.0.2", x.next(1, 1, 0, 2), 1);
        CHECK.due("next of 1.1.0.3", x.next(1, 1, 0, 3), 1);
        CHECK.due("next of 1.1.9", x.next(1, 1, 9, -1), 5);
        CHECK.due("next of 1.2", x.next(1, 2, -1, -1), 5);
        CHECK.due("next of 1.2.0", x.next(1, 2, 0, -1), 6);
        CHECK.due("next of 1.2.0.0", x.next(1, 2, 0, 0), 6);
        CHECK.due("next of 9.9", x.next(9, 9, -1, -1), 7);
        CHECK.due("next of 9.9.0", x.next(9, 9, 0, -1), LeafAsks.NONE);
        CHECK.due("next of 9.9.9.9", x.next(9, 9, 9, 9), LeafAsks.NONE);
        CHECK.due("next without leaves", new LeafAsks().next(0, -1, -1, -1), LeafAsks.NONE);
        Check.orders(x, "1.1.0.2=6;");
        CHECK.due("next with fewer leaves than there were", x.next(9, 9, 0, -1), LeafAsks.NONE);
        CHECK.due("the last one of them", x.leaf(9, 9, 0, -1), 4);
    }

    /** Rooms, by number: 5 5 5 5 6 4 4 5. */
    private static void bulk() {
        LeafAsks x = eight();
        CHECK.due("none asked", x.bulk(0, -1, -1, -1, 0, 999), 0);
        CHECK.due("no room", x.bulk(0, -1, -1, -1, 99, 0), 0);
        CHECK.due("too little room", x.bulk(0, -1, -1, -1, 99, 4), 0);
        CHECK.due("room of one", x.bulk(0, -1, -1, -1, 99, 5), 1);
        CHECK.due("room of one and a bit", x.bulk(0, -1, -1, -1, 99, 9), 1);
        CHECK.due("room of four", x.bulk(0, -1, -1, -1, 99, 25), 4);
        CHECK.due("room of five", x.bulk(0, -1, -1, -1, 99, 26), 5);
        CHECK.due("none is passed over", x.bulk(1, 1, 1, 9, 99, 5), 0);
        CHECK.due("all", x.bulk(0, -1, -1, -1, 99, 999), 8);
        CHECK.due("three at most", x.bulk(1, -1, -1, -1, 3, 999), 3);
        CHECK.due("the last one", x.bulk(9, -1, -1, -1, 99, 5), 1);
        CHECK.due("behind the last one", x.bulk(9, 9, 0, -1, 99, 999), 0);
        CHECK.due("just ahead of the first one", x.bulk(1, 1, 0, 1, 99, 999), 8);
        CHECK.due("just ahead of the last one", x.bulk(9, 9, -1, -1, 99, 999), 1);
        CHECK.due("many -1", x.bulk(1, 1, -1, -1, -1, 9), LeafAsks.BAD);
        CHECK.due("many 100", x.bulk(1, 1, -1, -1, 100, 9), LeafAsks.BAD);
        CHECK.due("room -1", x.bulk(1, 1, -1, -1, 9, -1), LeafAsks.BAD);
        CHECK.due("room 1000", x.bulk(1, 1, -1, -1, 9, 1000), LeafAsks.BAD);
        LeafAsks hundred = Check.of("c1 1 5;");
        hundred.ticks(20);
        CHECK.due("room of 100", hundred.bulk(1, -1, -1, -1, 1, 6), 1);
        CHECK.due("less than the room of 100", hundred.bulk(1, -1, -1, -1, 1, 5), 0);
        LeafAsks c = Check.of("c1 1 9;");
        int[][] due = {{1, 9, 4}, {1, 18, 5}, {9, 99, 5}, {1, 108, 6}, {88, 900, 6}, {11, 999, 6}};
        for (int[] d : due) {
            c.ticks(d[0]);
            CHECK.due("a counter's value", c.told(0, 4), d[1]);
            CHECK.due("its room", c.bulk(1, -1, -1, -1, 1, d[2]), 1);
            CHECK.due("less than its room", c.bulk(1, -1, -1, -1, 1, d[2] - 1), 0);
        }
    }

    private static void walk() {
        LeafAsks x = eight();
        CHECK.due("walk(-1)", x.walk(-1), LeafAsks.BAD);
        CHECK.due("walk(1000)", x.walk(1000), LeafAsks.BAD);
        CHECK.due("walk(0)", x.walk(0), LeafAsks.NONE);
        CHECK.due("walk(5)", x.walk(5), LeafAsks.NONE);
        CHECK.due("walk(6)", x.walk(6), 8);
        CHECK.due("walk(10)", x.walk(10), 4);
        CHECK.due("walk(13)", x.walk(13), 4);
        CHECK.due("walk(15)", x.walk(15), 3);
        CHECK.due("walk(38)", x.walk(38), 2);
        CHECK.due("walk(39)", x.walk(39), 1);
        CHECK.due("walk(999)", x.walk(999), 1);
        CHECK.due("walk(0) without leaves", new LeafAsks().walk(0), 0);
        CHECK.due("walk(1000) without leaves", new LeafAsks().walk(1000), LeafAsks.BAD);
    }

    private static void having() {
        LeafAsks x = eight();
        CHECK.due("how many have 0", x.having(0, -1), 2);
        CHECK.due("the first that has 0", x.having(0, 0), 2);
        CHECK.due("the second that has 0", x.having(0, 1), 5);
        CHECK.due("not so many", x.having(0, 2), LeafAsks.NONE);
        CHECK.due("not so many by far", x.having(0, Integer.MAX_VALUE), LeafAsks.NONE);
        CHECK.due("a status", x.having(1, 0), 0);
        CHECK.due("an UNREADY status", x.having(3, 0), 1);
        CHECK.due("the last leaf", x.having(99, 0), 7);
        CHECK.due("no unfilled cell counts", x.having(-1, -1), 0);
        CHECK.due("none has -1", x.having(-1, 0), LeafAsks.NONE);
        CHECK.due("k below -1", x.having(0, -2), LeafAsks.BAD);
        CHECK.due("k far below -1", x.having(0, Integer.MIN_VALUE), LeafAsks.BAD);
    }

    /** As many leaves as there can be: 6 singles and counters, 2 tables of 9 rows and 4 columns. */
    private static void allLeaves() {
        LeafAsks x = Check.of("t4 4 3;t6 6 3;n1 1 0 9 0;n2 2 0 9 0;n3 3 0 9 0;c5 5 1;c7 7 1;c8 8 1;");
        for (int row = 1; row <= 9; row++) {
            for (int t = 4; t <= 6; t += 2) {
                String table = t + "." + t + ".";
                String orders = table + "0." + row + "=4;";
                for (int column = 1; column <= 3; column++) {
                    orders += table + column + "." + row + "=" + (10 * column + row) + ";";
                }
                CHECK.dueOrders(x, orders, 4);
            }
        }
        CHECK.due("all leaves", x.count(2), 78);
        CHECK.due("a single ahead of a table", x.leaf(3, 3, 0, -1), 2);
        CHECK.due("a table's first cell", x.leaf(4, 4, 0, 1), 3);
        CHECK.due("a table's last cell", x.leaf(4, 4, 3, 9), 38);
        CHECK.due("a counter between tables", x.leaf(5, 5, 0, -1), 39);
        CHECK.due("the last leaf's number", x.leaf(8, 8, 0, -1), 77);
        CHECK.due("the last leaf's name", x.told(77, 0), 8);
        CHECK.due("of column 3", x.having(39, 1), 75);
        CHECK.due("all in one", x.bulk(0, -1, -1, -1, 99, 999), 78);
        CHECK.due("walk of all", x.walk(6 * 4 + 18 * 5 + 54 * 6), 1);
        CHECK.due("walk of all, a bit less", x.walk(6 * 4 + 18 * 5 + 54 * 6 - 1), 2);
        CHECK.due("walk one by one", x.walk(6), 78);
        CHECK.due("walk with two pairs", x.walk(8), 76);
    }
}
