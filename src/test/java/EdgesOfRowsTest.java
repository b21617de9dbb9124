/** The boundary cases of promises 15 to 20, sentence by sentence. */
public final class EdgesOfRowsTest {
    private static final Edges EDGES = new Edges();
    private static final int[] FAR = {Integer.MIN_VALUE, -1000, 1000, Integer.MAX_VALUE};

    public static void main(String[] args) {
        nothingIsChanged();
        whichTable();
        whichRow();
        statuses();
        needs();
        whichNotice();
        whatOfNotice();
        ticksLeft();
        keeping();
        bringingBack();
        noneKept();
        whatIsKept();
        imagesStay();
        counts();
        countsAtMost();
        EDGES.end("EdgesOfRowsTest");
    }

    private static void nothingIsChanged() {
        EDGES.sentence(15, "(Nothing is changed.)");
        EDGES.asked("status(0, 3)", x -> x.status(0, 3), 1);
        EDGES.asked("status(1, 1)", x -> x.status(1, 1), 0);
        EDGES.sentence(16, "(Nothing is changed.)");
        EDGES.asked("needs(1, 5)", x -> x.needs(1, 5), 2);
        EDGES.asked("needs(1, 1)", x -> x.needs(1, 1), 3);
        EDGES.sentence(17, "(Nothing is changed.)");
        EDGES.asked("notice(0, 2)", x -> x.notice(0, 2), 2);
        EDGES.sentence(20, "(Nothing is changed.)");
        EDGES.asked("count(2)", x -> x.count(2), 11);
        EDGES.asked("count(8)", x -> x.count(8), 6);
    }

    private static void whichTable() {
        String[] branches = {"", "c1 1 1;", "t1 1 1;", "t1 1 1;t1 2 1;"};
        int[] tables = {0, 0, 1, 2};
        for (int i = 0; i < branches.length; i++) {
            LeafAsks x = Check.of(branches[i]);
            for (int t = -1; t <= 3; t++) {
                boolean there = t >= 0 && t < tables[i];
                EDGES.sentence(15, "STATUS of a ROW (1 .. 9) of the t-th TABLE (0 on, by NAMES; 0: it is not there). BAD.");
                EDGES.due("status(" + t + ", 1) of " + tables[i], x.status(t, 1), there ? 0 : LeafAsks.BAD);
                EDGES.sentence(16, "NEEDS. BAD.");
                EDGES.due("needs(" + t + ", 1) of " + tables[i], x.needs(t, 1), there ? 2 : LeafAsks.BAD);
            }
        }
        for (int t : new int[] {-1, 2, 3, Integer.MIN_VALUE, Integer.MAX_VALUE}) {
            EDGES.refused("status(" + t + ", 1)", x -> x.status(t, 1), LeafAsks.BAD);
            EDGES.refused("needs(" + t + ", 1)", x -> x.needs(t, 1), LeafAsks.BAD);
        }
        EDGES.sentence(15, "of the t-th TABLE (0 on, by NAMES");
        LeafAsks x = Check.of("t9 1 1;c5 5 1;t1 9 2;");
        Check.orders(x, "9.1.0.1=5;9.1.1.1=1;1.9.0.1=5;");
        EDGES.due("the table of the lesser name", x.status(0, 1), 3);
        EDGES.due("the table of the greater name", x.status(1, 1), 2);
        EDGES.due("needs of the first", x.needs(0, 1), 3);
        EDGES.due("needs of the second", x.needs(1, 1), 1);
        EDGES.due("columns of the first", x.needs(0, 2), 3);
        EDGES.due("columns of the second", x.needs(1, 2), 2);
    }

    private static void whichRow() {
        for (int row : new int[] {0, 10, -1, 11, Integer.MIN_VALUE, Integer.MAX_VALUE}) {
            for (int t = 0; t <= 1; t++) {
                int table = t;
                EDGES.sentence(15, "STATUS of a ROW (1 .. 9)");
                EDGES.refused("status(" + t + ", " + row + ")", x -> x.status(table, row), LeafAsks.BAD);
                EDGES.sentence(16, "NEEDS. BAD.");
                EDGES.refused("needs(" + t + ", " + row + ")", x -> x.needs(table, row), LeafAsks.BAD);
            }
        }
        EDGES.sentence(15, "STATUS of a ROW (1 .. 9)");
        for (int made = 1; made <= 9; made++) {
            LeafAsks x = Check.of("t1 1 1;t1 2 1;");
            Check.orders(x, "1.1.0." + made + "=5;");
            for (int row = 1; row <= 9; row++) {
                EDGES.due("status(0, " + row + ") with row " + made, x.status(0, row), row == made ? 3 : 0);
                EDGES.due("status(1, " + row + ") with row " + made, x.status(1, row), 0);
            }
        }
    }

    private static void statuses() {
        EDGES.sentence(15, "A ROW that is there has a STATUS: 1 AT WORK, 2 RESTING, 3 UNREADY");
        LeafAsks x = Check.of("t1 1 1;");
        int[] due = {0, 3, 2, 1, 2, 0, 1, 0};
        String[] orders = {"1.1.0.9=6;", "1.1.0.9=5;", "1.1.1.9=0;", "1.1.0.9=1;", "1.1.0.9=2;", "1.1.0.9=6;",
            "1.1.0.9=4;1.1.1.9=0;", "1.1.0.9=6;"};
        for (int i = 0; i < due.length; i++) {
            Check.orders(x, orders[i]);
            EDGES.due("status behind " + orders[i], x.status(0, 9), due[i]);
            EDGES.due("leaf of it behind " + orders[i], x.leaf(1, 1, 0, 9), due[i] == 0 ? LeafAsks.NONE : 0);
        }
    }

    private static void needs() {
        EDGES.sentence(16, "0, if it is; 1, if it RESTS; if it is UNREADY, one more than columns without a value; "
            + "if it is not there, one more than COLUMNS");
        for (int columns = 1; columns <= 3; columns++) {
            LeafAsks x = Check.of("t1 1 " + columns + ";");
            EDGES.due("not there, of " + columns, x.needs(0, 1), columns + 1);
            Check.orders(x, "1.1.0.1=5;");
            EDGES.due("UNREADY, of " + columns, x.needs(0, 1), columns + 1);
            for (int column = columns; column >= 1; column--) {
                Check.orders(x, "1.1." + column + ".1=0;");
                EDGES.due("filled from " + column + " of " + columns, x.needs(0, 1), column);
            }
            EDGES.due("it rests then", x.status(0, 1), 2);
            Check.orders(x, "1.1.0.1=1;");
            EDGES.due("AT WORK, of " + columns, x.needs(0, 1), 0);
            Check.orders(x, "1.1.0.1=2;");
            EDGES.due("RESTING, of " + columns, x.needs(0, 1), 1);
            Check.orders(x, "1.1.0.1=6;");
            EDGES.due("gone, of " + columns, x.needs(0, 1), columns + 1);
            Check.orders(x, "1.1.0.1=4;1.1.0.1=2;");
            EDGES.due("RESTING unfilled, of " + columns, x.needs(0, 1), 1);
            Check.orders(x, "1.1.0.1=1;");
            EDGES.due("AT WORK unfilled, of " + columns, x.needs(0, 1), 0);
        }
    }

    private static void whichNotice() {
        EDGES.sentence(17, "Of the i-th NOTICE that waits");
        for (int what = 0; what <= 4; what++) {
            int which = what;
            EDGES.refused("notice(-1, " + what + ") of seven", x -> x.notice(-1, which), LeafAsks.BAD);
            EDGES.refused("notice(7, " + what + ") of seven", x -> x.notice(7, which), LeafAsks.BAD);
            EDGES.due("notice(0, " + what + ") of none", new LeafAsks().notice(0, what), LeafAsks.BAD);
        }
        for (int i : FAR) {
            EDGES.refused("notice(" + i + ", 0)", x -> x.notice(i, 0), LeafAsks.BAD);
        }
        LeafAsks x = new LeafAsks();
        Edges.rich(x);
        int[][] due = {{1, 0, 2, 1, 1}, {1, 0, 3, 1, 1}, {0, 0, 1, 1, 3}, {0, 0, 3, 1, 3}, {0, 1, 9, 1, 3}, {1, 0, 1, 1, 3},
            {1, 0, 2, 1, 3}};
        for (int i = 0; i < due.length; i++) {
            for (int what = 0; what < 5; what++) {
                EDGES.due("notice(" + i + ", " + what + ")", x.notice(i, what), due[i][what]);
            }
        }
        x.answers(6);
        EDGES.due("notice(6, 0) of six", x.notice(6, 0), LeafAsks.BAD);
        EDGES.due("notice(5, 0) of six", x.notice(5, 0), 1);
    }

    private static void whatOfNotice() {
        EDGES.sentence(17, "0 kind, 1 which TABLE (as above), 2 ROW, 3 how often it was SENT, "
            + "4 in how many TICKS it is SENT again or GIVEN UP. BAD.");
        for (int i = 0; i < 7; i++) {
            int which = i;
            EDGES.refused("notice(" + i + ", -1)", x -> x.notice(which, -1), LeafAsks.BAD);
            EDGES.refused("notice(" + i + ", 5)", x -> x.notice(which, 5), LeafAsks.BAD);
        }
        for (int what : FAR) {
            EDGES.refused("notice(0, " + what + ")", x -> x.notice(0, what), LeafAsks.BAD);
        }
        LeafAsks x = Check.of("t9 9 1;t1 1 1;");
        Check.orders(x, "9.9.0.9=4;9.9.1.9=0;1.1.0.1=4;1.1.1.1=0;");
        Check.orders(x, "9.9.0.9=6;");
        int[][] due = {{0, 0, 1, 1, 3}, {0, 1, 9, 1, 3}, {1, 1, 9, 1, 3}};
        for (int i = 0; i < due.length; i++) {
            for (int what = 0; what < 5; what++) {
                EDGES.due("notice(" + i + ", " + what + ")", x.notice(i, what), due[i][what]);
            }
        }
    }

    private static void ticksLeft() {
        EDGES.sentence(17, "4 in how many TICKS it is SENT again or GIVEN UP");
        for (int ticks = 0; ticks < 9; ticks++) {
            LeafAsks x = Check.of("t1 1 1;");
            Check.orders(x, "1.1.0.1=4;1.1.1.1=0;");
            for (int i = 0; i < ticks; i++) {
                x.ticks(1);
            }
            int left = x.notice(0, 4);
            int sent = x.notice(0, 3);
            EDGES.due("left behind " + ticks, left, 3 - ticks % 3);
            if (left > 1) {
                x.ticks(left - 1);
                EDGES.due("one tick ahead of it, behind " + ticks, x.notice(0, 3), sent);
            }
            x.ticks(1);
            EDGES.due("just then, behind " + ticks, x.notice(0, 3), ticks < 6 ? sent + 1 : LeafAsks.BAD);
            EDGES.due("given up, behind " + ticks, x.count(6), ticks < 6 ? 0 : 1);
        }
    }

    private static void keeping() {
        EDGES.sentence(18, "An IMAGE is kept: TIME. BAD.");
        for (int image : new int[] {-1, 2, 3, Integer.MIN_VALUE, Integer.MAX_VALUE}) {
            EDGES.refused("keep(" + image + ")", x -> x.keep(image), LeafAsks.BAD);
        }
        LeafAsks x = new LeafAsks();
        EDGES.due("keep(0) of a new object", x.keep(0), 0);
        EDGES.due("back(1), the other one", x.back(1), LeafAsks.STATE);
        EDGES.due("back(0)", x.back(0), 0);
        x.ticks(99);
        EDGES.due("keep(1)", x.keep(1), 99);
        EDGES.due("back(0)", x.back(0), 0);
        EDGES.due("back(1)", x.back(1), 99);
        x.ticks(1);
        EDGES.due("keep(1) in place of the other one", x.keep(1), 100);
        x.ticks(1);
        EDGES.due("keep changes nothing: time", x.count(3), 101);
        EDGES.due("keep changes nothing: undo", x.count(8), 2);
        EDGES.due("back(1)", x.back(1), 100);
        EDGES.due("back(0)", x.back(0), 0);
        for (int i = 0; i < 10; i++) {
            x.ticks(99);
        }
        x.ticks(9);
        EDGES.due("keep(0) at 999", x.keep(0), 999);
        EDGES.due("back(1)", x.back(1), 100);
        EDGES.due("back(0) to 999", x.back(0), 999);
        EDGES.due("no tick behind it", x.ticks(1), LeafAsks.STATE);
    }

    private static void bringingBack() {
        EDGES.sentence(19, "BAD; STATE: none was kept.");
        for (int image : new int[] {-1, 2, 3, Integer.MIN_VALUE, Integer.MAX_VALUE}) {
            EDGES.refused("back(" + image + ")", x -> x.back(image), LeafAsks.BAD);
            EDGES.due("back(" + image + ") of a new object", new LeafAsks().back(image), LeafAsks.BAD);
        }
        LeafAsks x = new LeafAsks();
        Edges.rich(x);
        EDGES.due("back(0)", x.back(0), 9);
        EDGES.due("back(1)", x.back(1), 11);
        EDGES.due("back(1) once more", x.back(1), 11);
        EDGES.due("back(0) once more", x.back(0), 9);
    }

    /** Much of what rich() has, image 1 alone. */
    private static void oneImage(LeafAsks x) {
        Check.branches(x, "t1 1 1;c1 2 1;");
        Check.orders(x, "1.1.0.1=4;1.1.1.1=7;");
        x.ticks(4);
        x.keep(1);
        Check.orders(x, "1.1.0.1=2;");
        x.ticks(1);
        Check.type(x, "1.1.0.1=1");
    }

    private static void noneKept() {
        EDGES.sentence(19, "STATE: none was kept.");
        EDGES.refused("back(0) of a new object", x -> { }, x -> x.back(0), LeafAsks.STATE);
        EDGES.refused("back(1) of a new object", x -> { }, x -> x.back(1), LeafAsks.STATE);
        EDGES.refused("back(0), the other one kept", EdgesOfRowsTest::oneImage, x -> x.back(0), LeafAsks.STATE);
        EDGES.sentence(19, "IMAGES are gone, nothing can be UNDONE");
        LeafAsks x = new LeafAsks();
        oneImage(x);
        EDGES.due("branches that are refused", x.branches(), -10);
        EDGES.due("the image is there still", x.back(1), 4);
        EDGES.due("branches told anew", Check.branches(x, "t1 1 1;c1 2 1;"), 2);
        EDGES.due("back(1) then", x.back(1), LeafAsks.STATE);
        EDGES.due("keep(1) then", x.keep(1), 0);
        EDGES.due("back(1) at last", x.back(1), 0);
        EDGES.due("back(0) at last", x.back(0), LeafAsks.STATE);
    }

    private static void whatIsKept() {
        EDGES.sentence(19, "All of that becomes as an IMAGE has it: TIME.");
        LeafAsks x = new LeafAsks();
        Edges.rich(x);
        x.keep(0);
        var kept = Edges.world(x);
        changeAndBringBack(x);
        EDGES.due("leaves, notices and counts as kept", Edges.world(x).equals(kept));
        EDGES.sentence(19, "keep all of that; nothing else (nothing can be UNDONE behind back())");
        LeafAsks y = new LeafAsks();
        Edges.rich(y);
        y.keep(0);
        changeAndBringBack(y);
        EDGES.due("count(8)", y.count(8), 0);
        EDGES.due("undo()", y.undo(), LeafAsks.STATE);
        EDGES.due("the text stays", y.count(7), 8);
        y.type(';');
        EDGES.due("and can be told", y.orders(), 1);
        EDGES.due("undo() of it", y.undo(), 0);
        EDGES.due("as kept again", Edges.world(y).equals(kept));
    }

    private static void changeAndBringBack(LeafAsks x) {
        x.ticks(9);
        x.undo();
        x.ticks(5);
        x.answers(0);
        EDGES.due("back(0)", x.back(0), 11);
    }

    private static void imagesStay() {
        EDGES.sentence(19, "All of that becomes as an IMAGE has it");
        LeafAsks x = Check.of("n1 1 0 9 1;");
        x.keep(0);
        Check.orders(x, "1.1.0=2;");
        x.keep(1);
        Check.orders(x, "1.1.0=3;");
        for (int image : new int[] {0, 1, 0, 0, 1, 1}) {
            x.back(image);
            EDGES.due("the single of image " + image, x.told(0, 4), image + 1);
            Check.orders(x, "1.1.0=9;");
        }
        x.undo();
        EDGES.due("undo leaves images alone", x.back(0), 0);
        EDGES.due("the single of image 0", x.told(0, 4), 1);
    }

    private static void counts() {
        EDGES.sentence(20, "0 BRANCHES, 1 TABLES, 2 LEAVES, 3 TIME, 4 NOTICES that wait, 5 how many were DROPPED, 6 GIVEN UP, "
            + "7 letters of THE TEXT, 8 how many may be UNDONE. BAD.");
        for (int what : new int[] {-1, 9, 10, Integer.MIN_VALUE, Integer.MAX_VALUE}) {
            EDGES.refused("count(" + what + ")", x -> x.count(what), LeafAsks.BAD);
            EDGES.due("count(" + what + ") of a new object", new LeafAsks().count(what), LeafAsks.BAD);
        }
        LeafAsks x = new LeafAsks();
        Edges.rich(x);
        int[] due = {4, 2, 11, 11, 7, 1, 3, 8, 6};
        for (int what = 0; what < due.length; what++) {
            EDGES.due("count(" + what + ")", x.count(what), due[what]);
            EDGES.due("count(" + what + ") of a new object", new LeafAsks().count(what), 0);
        }
    }

    private static void countsAtMost() {
        EDGES.sentence(20, "0 BRANCHES, 1 TABLES, 2 LEAVES, 3 TIME");
        LeafAsks x = Check.of("t1 1 1;t1 2 1;c1 3 1;c1 4 1;c1 5 1;c1 6 1;c1 7 1;c1 8 1;");
        EDGES.due("8 branches", x.count(0), 8);
        EDGES.due("2 tables", x.count(1), 2);
        for (int i = 0; i < 10; i++) {
            x.ticks(99);
        }
        x.ticks(9);
        EDGES.due("time 999", x.count(3), 999);
        EDGES.due("6 may be undone", x.count(8), 6);
        for (int i = 0; i < 161; i++) {
            x.type('9');
        }
        EDGES.due("160 letters", x.count(7), 160);
        EDGES.sentence(20, "5 how many were DROPPED, 6 GIVEN UP");
        LeafAsks y = Check.of("t1 1 1;");
        Check.orders(y, "1.1.0.1=4;1.1.1.1=0;");
        for (int i = 0; i < 11; i++) {
            Check.orders(y, "1.1.0.1=2;");
            Check.orders(y, "1.1.0.1=1;");
        }
        EDGES.due("8 notices wait", y.count(4), 8);
        EDGES.due("15 were dropped", y.count(5), 15);
        y.ticks(9);
        EDGES.due("8 were given up", y.count(6), 8);
        EDGES.due("15 were dropped still", y.count(5), 15);
        EDGES.due("no notices wait", y.count(4), 0);
    }
}
