/** Promises 15 to 20: statuses, needs, notices, images and counts. */
public final class RowsTest {
    private static final Check CHECK = new Check();
    private static final int[][] NO_ROWS = {
        {-1, 1}, {2, 1}, {0, 0}, {0, 10}, {1, -1}, {Integer.MAX_VALUE, 1}, {0, Integer.MIN_VALUE},
    };

    public static void main(String[] args) {
        statuses();
        needs();
        notices();
        images();
        counts();
        CHECK.end("RowsTest");
    }

    private static LeafAsks tables() {
        return Check.of("t5 1 3;c1 2 7;t1 1 1;");
    }

    private static void statuses() {
        LeafAsks x = tables();
        for (int[] n : NO_ROWS) {
            CHECK.due("status(" + n[0] + ", " + n[1] + ")", x.status(n[0], n[1]), LeafAsks.BAD);
        }
        CHECK.due("status without tables", Check.of("c1 1 1;").status(0, 1), LeafAsks.BAD);
        CHECK.due("status not there", x.status(0, 1), 0);
        Check.orders(x, "1.1.0.1=4;1.1.1.1=0;5.1.0.9=5;5.1.0.1=4;5.1.0.1=2;");
        CHECK.due("status AT WORK", x.status(0, 1), 1);
        CHECK.due("status RESTING", x.status(1, 1), 2);
        CHECK.due("status UNREADY", x.status(1, 9), 3);
        CHECK.due("status of the other table's row", x.status(0, 9), 0);
    }

    private static void needs() {
        LeafAsks x = tables();
        for (int[] n : NO_ROWS) {
            CHECK.due("needs(" + n[0] + ", " + n[1] + ")", x.needs(n[0], n[1]), LeafAsks.BAD);
        }
        CHECK.due("one column, not there", x.needs(0, 9), 2);
        CHECK.due("three columns, not there", x.needs(1, 9), 4);
        String[] orders = {"5.1.0.9=5;", "5.1.3.9=0;", "5.1.1.9=0;", "5.1.2.9=0;", "5.1.0.9=1;", "5.1.0.9=6;"};
        int[] due = {4, 3, 2, 1, 0, 4};
        for (int i = 0; i < orders.length; i++) {
            Check.orders(x, orders[i]);
            CHECK.due("needs behind " + orders[i], x.needs(1, 9), due[i]);
        }
        Check.orders(x, "5.1.0.1=4;5.1.0.1=2;");
        CHECK.due("RESTING, though unfilled", x.needs(1, 1), 1);
        Check.orders(x, "5.1.0.1=1;");
        CHECK.due("AT WORK, though unfilled", x.needs(1, 1), 0);
    }

    private static void notices() {
        LeafAsks x = tables();
        CHECK.due("notice without any", x.notice(0, 0), LeafAsks.BAD);
        Check.orders(x, "1.1.0.7=4;1.1.1.7=0;5.1.0.2=4;5.1.1.2=0;5.1.2.2=0;5.1.3.2=0;");
        x.ticks(4);
        int[][] due = {{0, 0, 7, 2, 2}, {0, 1, 2, 2, 2}};
        for (int i = 0; i < due.length; i++) {
            for (int what = 0; what < 5; what++) {
                CHECK.due("notice(" + i + ", " + what + ")", x.notice(i, what), due[i][what]);
            }
        }
        int[][] wrong = {{-1, 0}, {2, 0}, {0, -1}, {0, 5}, {Integer.MAX_VALUE, 0}, {0, Integer.MAX_VALUE}};
        for (int[] w : wrong) {
            CHECK.due("notice(" + w[0] + ", " + w[1] + ")", x.notice(w[0], w[1]), LeafAsks.BAD);
        }
    }

    private static void images() {
        LeafAsks x = tables();
        int[] wrong = {-1, 2, Integer.MAX_VALUE, Integer.MIN_VALUE};
        for (int image : wrong) {
            CHECK.due("keep(" + image + ")", x.keep(image), LeafAsks.BAD);
            CHECK.due("back(" + image + ")", x.back(image), LeafAsks.BAD);
        }
        CHECK.due("back(0), none kept", x.back(0), LeafAsks.STATE);
        Check.orders(x, "1.1.0.1=4;1.1.1.1=5;");
        x.ticks(9);
        CHECK.due("keep(1)", x.keep(1), 9);
        CHECK.due("back(0), the other one kept", x.back(0), LeafAsks.STATE);
        CHECK.due("a refused back leaves what may be undone", x.count(8), 2);
        Check.orders(x, "1.1.0.1=6;");
        x.ticks(20);
        CHECK.due("keep(0)", x.keep(0), 29);
        Check.type(x, "abc");
        CHECK.due("back(1)", x.back(1), 9);
        CHECK.due("time", x.count(3), 9);
        CHECK.due("the row", x.status(0, 1), 1);
        CHECK.due("its cell", x.told(1, 4), 5);
        CHECK.due("the counter", x.told(2, 4), 63);
        CHECK.due("notices", x.count(4), 0);
        CHECK.due("given up", x.count(6), 1);
        CHECK.due("the text is no part of it", x.count(7), 3);
        CHECK.due("nothing can be undone", x.undo(), LeafAsks.STATE);
        x.ticks(1);
        CHECK.due("undo goes on behind it", x.undo(), 0);
        CHECK.due("back(0)", x.back(0), 29);
        CHECK.due("the row is away", x.status(0, 1), 0);
        CHECK.due("given up twice", x.count(6), 2);
        CHECK.due("back(1) once more", x.back(1), 9);
        x.ticks(2);
        CHECK.due("keep(1) anew", x.keep(1), 11);
        CHECK.due("keep leaves what may be undone", x.count(8), 1);
        x.undo();
        CHECK.due("an image is not undone", x.back(1), 11);
    }

    private static void counts() {
        LeafAsks x = tables();
        CHECK.due("count(-1)", x.count(-1), LeafAsks.BAD);
        CHECK.due("count(9)", x.count(9), LeafAsks.BAD);
        Check.orders(x, "1.1.0.1=4;1.1.1.1=5;");
        x.ticks(12);
        Check.orders(x, "1.1.0.1=2;");
        Check.type(x, "12345");
        int[] due = {3, 2, 3, 12, 1, 0, 1, 5, 3};
        for (int what = 0; what < due.length; what++) {
            CHECK.due("count(" + what + ")", x.count(what), due[what]);
        }
    }
}
