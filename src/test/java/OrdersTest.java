/** Promises 5 to 8: orders, their faults and reasons; ticks, answers and what is undone. */
public final class OrdersTest {
    private static final Check CHECK = new Check();

    public static void main(String[] args) {
        faults();
        reasonsOfNames();
        reasonsOfValues();
        rowsLife();
        allOrNone();
        leftUnfilled();
        notices();
        dropping();
        ticking();
        answering();
        undoing();
        CHECK.end("OrdersTest");
    }

    private static LeafAsks small() {
        return Check.of("t1 1 2;c1 2 7;n2 1 5 30 9;");
    }

    private static void faults() {
        LeafAsks x = small();
        CHECK.dueOrders(x, "", -10);
        CHECK.dueOrders(x, "   ", -13);
        CHECK.dueOrders(x, ";", -10);
        CHECK.dueOrders(x, ".1=1;", -10);
        CHECK.dueOrders(x, "=1;", -10);
        CHECK.dueOrders(x, "2", -11);
        CHECK.dueOrders(x, "2.", -12);
        CHECK.dueOrders(x, "2..", -12);
        CHECK.dueOrders(x, "2 1.0=9;", -12);
        CHECK.dueOrders(x, "2.10.0=9;", -12);
        CHECK.dueOrders(x, "2.01.0=9;", -12);
        CHECK.dueOrders(x, "2.1.0;", -15);
        CHECK.dueOrders(x, "2.1.0==", -16);
        CHECK.dueOrders(x, "2.1.0=", -16);
        CHECK.dueOrders(x, "2.1.0=100;", -16);
        CHECK.dueOrders(x, "2.1.0=09;", -16);
        CHECK.dueOrders(x, "2.1.0=9", -17);
        CHECK.dueOrders(x, "2.1.0=9 ", -18);
        CHECK.dueOrders(x, "2.1.0=9 9;", -18);
        CHECK.dueOrders(x, "2.1.0=9.", -17);
        CHECK.dueOrders(x, "2.1.0=9;;", -18);
        CHECK.dueOrders(x, "2.1.0=9;n", -18);
        CHECK.dueOrders(x, "1.1.0.1.", -17);
        CHECK.dueOrders(x, "1.1.0.1 .0=1;", -18);
        CHECK.dueOrders(x, "-1.1=1;", -10);
        CHECK.due("a faulty text stays", x.count(7), 7);
        CHECK.due("nothing to undo", x.count(8), 0);
        CHECK.dueOrders(x, " 2 . 1 . 0 = 10 ; ", 1);
        CHECK.due("the text is empty behind it", x.count(7), 0);
        String eight = "2.1.0=9;2.1.0=9;2.1.0=9;2.1.0=9;2.1.0=9;2.1.0=9;2.1.0=9;2.1.0=9;";
        CHECK.dueOrders(x, eight, 8);
        CHECK.dueOrders(x, eight + "  ", 8);
        CHECK.dueOrders(x, eight + " 2.1.0=9;", -75);
        CHECK.dueOrders(x, eight + ".", -74);
        CHECK.dueOrders(x, "9.9.9.9=1;x", -20);
    }

    private static void reasonsOfNames() {
        LeafAsks x = small();
        CHECK.dueOrders(x, "1=1;", -1001);
        CHECK.dueOrders(x, "2.1=9;", -1001);
        CHECK.dueOrders(x, "2.1.1=9;", -1001);
        CHECK.dueOrders(x, "2.1.0.0=9;", -1001);
        CHECK.dueOrders(x, "1.2=9;", -1001);
        CHECK.dueOrders(x, "1.2.1=9;", -1001);
        CHECK.dueOrders(x, "1.2.0.1=9;", -1001);
        CHECK.dueOrders(x, "3.1.0=9;", -1001);
        CHECK.dueOrders(x, "0.0.0=9;", -1001);
        CHECK.dueOrders(x, "1.1.0=4;", -1001);
        CHECK.dueOrders(x, "1.1.0.0=4;", -1001);
        CHECK.dueOrders(x, "1.1.3.1=4;", -1001);
        CHECK.dueOrders(x, "1.1=4;", -1001);
        CHECK.dueOrders(x, "1.2.0=0;", -1002);
        CHECK.dueOrders(x, "2.1.0=9;1.2.0=99;", -1012);
        CHECK.due("the text stays", x.count(7), 17);
    }

    private static void reasonsOfValues() {
        LeafAsks x = small();
        CHECK.dueOrders(x, "2.1.0=4;", -1003);
        CHECK.dueOrders(x, "2.1.0=31;", -1003);
        CHECK.dueOrders(x, "2.1.0=5;", 1);
        CHECK.dueOrders(x, "2.1.0=30;", 1);
        CHECK.due("the single's value", x.told(1, 4), 30);
        int[] never = {0, 3, 7, 8, 14, 99};
        for (int value : never) {
            CHECK.dueOrders(x, "1.1.0.1=" + value + ";", -1003);
        }
        CHECK.dueOrders(x, "1.1.0.1=1;", -1004);
        CHECK.dueOrders(x, "1.1.0.1=2;", -1004);
        CHECK.dueOrders(x, "1.1.1.1=0;", -1004);
        CHECK.dueOrders(x, "1.1.0.1=5;", 1);
        CHECK.dueOrders(x, "1.1.0.1=1;", -1004);
        CHECK.dueOrders(x, "1.1.0.1=2;", -1004);
        CHECK.dueOrders(x, "1.1.0.1=4;", -1004);
        CHECK.dueOrders(x, "1.1.0.1=5;", -1004);
        CHECK.dueOrders(x, "1.1.0.1=3;", -1003);
    }

    private static void rowsLife() {
        LeafAsks x = small();
        CHECK.dueOrders(x, "1.1.0.9=6;", 1);
        CHECK.due("taken away where it was not", x.status(0, 9), 0);
        CHECK.dueOrders(x, "1.1.0.9=5;1.1.1.9=0;", 2);
        CHECK.due("UNREADY with one column", x.status(0, 9), 3);
        CHECK.dueOrders(x, "1.1.1.9=99;", 1);
        CHECK.due("UNREADY still", x.status(0, 9), 3);
        CHECK.dueOrders(x, "1.1.2.9=50;", 1);
        CHECK.due("RESTING when filled", x.status(0, 9), 2);
        CHECK.dueOrders(x, "1.1.0.9=1;1.1.2.9=51;", 2);
        CHECK.due("AT WORK", x.status(0, 9), 1);
        CHECK.due("a cell's value", x.told(x.leaf(1, 1, 2, 9), 4), 51);
        CHECK.dueOrders(x, "1.1.0.9=2;", 1);
        CHECK.due("RESTING", x.status(0, 9), 2);
        CHECK.dueOrders(x, "1.1.0.9=6;", 1);
        CHECK.due("gone", x.status(0, 9), 0);
        CHECK.due("and its cells", x.leaf(1, 1, 2, 9), LeafAsks.NONE);
        CHECK.dueOrders(x, "1.1.0.9=5;", 1);
        CHECK.due("no cells when made again", x.leaf(1, 1, 2, 9), LeafAsks.NONE);
    }

    private static void allOrNone() {
        LeafAsks x = small();
        Check.orders(x, "2.1.0=12;");
        CHECK.dueOrders(x, "2.1.0=13;1.1.0.1=4;1.1.1.1=1;1.1.2.1=1;2.1.0=31;", -1043);
        CHECK.due("the single as it was", x.told(1, 4), 12);
        CHECK.due("the row as it was", x.status(0, 1), 0);
        CHECK.due("no notice", x.count(4), 0);
        CHECK.due("one to undo", x.count(8), 1);
        CHECK.dueOrders(x, "1.1.1.1=1;9=1;", -1004);
    }

    private static void leftUnfilled() {
        LeafAsks x = small();
        CHECK.dueOrders(x, "1.1.0.1=4;", -1005);
        CHECK.dueOrders(x, "1.1.0.2=4;1.1.0.1=4;", -1005);
        CHECK.dueOrders(x, "1.1.0.2=4;1.1.0.1=4;1.1.1.2=1;1.1.2.2=1;", -1015);
        CHECK.dueOrders(x, "1.1.0.1=4;1.1.0.1=6;1.1.0.1=4;1.1.1.1=3;", -1025);
        CHECK.dueOrders(x, "1.1.0.1=4;1.1.1.1=3;1.1.2.1=3;1.1.0.1=6;1.1.0.1=4;", -1045);
        CHECK.dueOrders(x, "1.1.0.1=4;1.1.0.1=6;", 2);
        CHECK.dueOrders(x, "1.1.0.1=4;1.1.0.1=6;1.1.0.1=5;", 3);
        CHECK.due("UNREADY", x.status(0, 1), 3);
        CHECK.dueOrders(x, "1.1.0.2=4;1.1.0.2=2;1.1.0.2=1;", -1005);
        CHECK.dueOrders(x, "1.1.0.2=4;1.1.0.2=2;", 2);
        CHECK.due("RESTING, though unfilled", x.status(0, 2), 2);
        CHECK.dueOrders(x, "1.1.0.2=1;", 1);
        CHECK.due("AT WORK, though unfilled", x.status(0, 2), 1);
        CHECK.due("its status alone", x.leaf(1, 1, 1, 2), LeafAsks.NONE);
        CHECK.dueOrders(x, "2.1.0=9;", 1);
        LeafAsks two = Check.of("t2 1 1;t1 1 1;");
        CHECK.dueOrders(two, "2.1.0.1=4;1.1.0.1=4;", -1005);
        CHECK.dueOrders(two, "2.1.0.9=4;", -1005);
        CHECK.dueOrders(two, "1.1.0.9=4;", -1005);
        CHECK.dueOrders(two, "2.1.0.1=4;1.1.0.1=4;2.1.1.1=0;", -1015);
    }

    private static void notices() {
        LeafAsks x = Check.of("t2 1 1;t1 1 1;");
        Check.orders(x, "2.1.0.3=4;2.1.1.3=1;2.1.0.1=4;2.1.1.1=1;1.1.0.9=4;1.1.1.9=1;");
        CHECK.due("three notices", x.count(4), 3);
        int[][] due = {{0, 0, 9, 1, 3}, {0, 1, 1, 1, 3}, {0, 1, 3, 1, 3}};
        for (int i = 0; i < due.length; i++) {
            for (int what = 0; what < 5; what++) {
                CHECK.due("notice(" + i + ", " + what + ")", x.notice(i, what), due[i][what]);
            }
        }
        CHECK.dueOrders(x, "2.1.0.3=1;2.1.0.1=2;2.1.0.1=1;1.1.0.9=6;1.1.0.9=4;1.1.1.9=1;", 6);
        CHECK.due("none of what is as ahead of all", x.count(4), 3);
        CHECK.dueOrders(x, "2.1.0.3=6;1.1.0.9=2;1.1.0.1=4;1.1.1.1=0;1.1.0.2=5;", 5);
        int[][] then = {{0, 0, 1}, {1, 0, 9}, {1, 1, 3}};
        CHECK.due("three more", x.count(4), 6);
        for (int i = 0; i < then.length; i++) {
            for (int what = 0; what < 3; what++) {
                CHECK.due("then notice(" + (3 + i) + ", " + what + ")", x.notice(3 + i, what), then[i][what]);
            }
        }
    }

    private static void dropping() {
        LeafAsks x = Check.of("t1 1 1;");
        Check.orders(x, "1.1.0.1=4;1.1.1.1=0;1.1.0.2=4;1.1.1.2=0;1.1.0.3=4;1.1.1.3=0;1.1.0.4=4;1.1.1.4=0;");
        x.ticks(1);
        Check.orders(x, "1.1.0.1=2;1.1.0.2=2;1.1.0.3=2;1.1.0.4=2;");
        CHECK.due("eight wait", x.count(4), 8);
        CHECK.due("none dropped", x.count(5), 0);
        CHECK.due("the oldest one's ticks", x.notice(0, 4), 2);
        Check.orders(x, "1.1.0.1=1;1.1.0.2=1;1.1.0.3=1;");
        CHECK.due("eight wait still", x.count(4), 8);
        CHECK.due("three dropped", x.count(5), 3);
        CHECK.due("the oldest now", x.notice(0, 2), 4);
        CHECK.due("the oldest one's kind", x.notice(0, 0), 0);
        CHECK.due("the newest now", x.notice(7, 2), 3);
        x.undo();
        CHECK.due("none dropped when undone", x.count(5), 0);
        CHECK.due("the oldest when undone", x.notice(0, 2), 1);
    }

    private static void ticking() {
        LeafAsks x = Check.of("t1 1 1;c1 2 9;");
        CHECK.due("ticks(0)", x.ticks(0), LeafAsks.BAD);
        CHECK.due("ticks(-1)", x.ticks(-1), LeafAsks.BAD);
        CHECK.due("ticks(100)", x.ticks(100), LeafAsks.BAD);
        CHECK.due("refused ones can't be undone", x.count(8), 0);
        Check.orders(x, "1.1.0.1=4;1.1.1.1=0;");
        int[] left = {2, 1, 3, 2, 1, 3, 2, 1};
        int[] sent = {1, 1, 2, 2, 2, 3, 3, 3};
        for (int i = 0; i < left.length; i++) {
            CHECK.due("ticks(1)", x.ticks(1), i + 1);
            CHECK.due("left at " + (i + 1), x.notice(0, 4), left[i]);
            CHECK.due("sent at " + (i + 1), x.notice(0, 3), sent[i]);
        }
        CHECK.due("ticks(1)", x.ticks(1), 9);
        CHECK.due("given up", x.count(6), 1);
        CHECK.due("waits no more", x.count(4), 0);
        CHECK.due("ticks(99)", x.ticks(99), 108);
        CHECK.due("a counter below 1000", x.told(2, 4), 972);
        x.ticks(4);
        CHECK.due("a counter left over by 1000", x.told(2, 4), 8);
        for (int i = 0; i < 8; i++) {
            x.ticks(99);
        }
        CHECK.due("time", x.count(3), 904);
        CHECK.due("above 999", x.ticks(96), LeafAsks.STATE);
        CHECK.due("BAD comes ahead of STATE", x.ticks(100), LeafAsks.BAD);
        CHECK.due("up to 999", x.ticks(95), 999);
        CHECK.due("not one more", x.ticks(1), LeafAsks.STATE);
    }

    private static void answering() {
        LeafAsks x = Check.of("t1 1 1;");
        Check.orders(x, "1.1.0.1=4;1.1.1.1=0;1.1.0.2=4;1.1.1.2=0;1.1.0.3=4;1.1.1.3=0;");
        x.ticks(4);
        CHECK.due("answers(-1)", x.answers(-1), LeafAsks.BAD);
        CHECK.due("answers(3)", x.answers(3), LeafAsks.BAD);
        CHECK.due("answers(1)", x.answers(1), 2);
        CHECK.due("two wait", x.count(4), 2);
        CHECK.due("the first one", x.notice(0, 2), 1);
        CHECK.due("the other one", x.notice(1, 2), 3);
        CHECK.due("answers(2)", x.answers(2), LeafAsks.BAD);
        CHECK.due("answered is not given up", x.count(6), 0);
        CHECK.due("nor dropped", x.count(5), 0);
        CHECK.due("three to undo", x.count(8), 3);
        x.undo();
        CHECK.due("three wait when undone", x.count(4), 3);
        CHECK.due("answers(2)", x.answers(2), 2);
        CHECK.due("answers(0)", x.answers(0), 2);
        CHECK.due("the one that is left", x.notice(0, 2), 2);
        LeafAsks full = Check.of("t1 1 1;");
        for (int row = 1; row <= 8; row++) {
            Check.orders(full, "1.1.0." + row + "=4;1.1.1." + row + "=0;");
        }
        CHECK.due("the last one of eight", full.answers(7), 1);
        CHECK.due("one amid seven", full.answers(5), 1);
        CHECK.due("the newest of six", full.notice(5, 2), 7);
        CHECK.due("the one ahead of it", full.notice(4, 2), 5);
        CHECK.due("the oldest of six", full.notice(0, 2), 1);
    }

    private static void undoing() {
        LeafAsks x = Check.of("n1 1 0 99 0;c1 2 1;");
        CHECK.due("branches can't be undone", x.undo(), LeafAsks.STATE);
        for (int i = 1; i <= 7; i++) {
            Check.orders(x, "1.1.0=" + i + ";");
        }
        Check.orders(x, "1.1.0=");
        CHECK.due("six are known", x.count(8), 6);
        for (int i = 6; i >= 1; i--) {
            CHECK.due("undo", x.undo(), i - 1);
            CHECK.due("the value ahead of it", x.told(0, 4), i);
        }
        CHECK.due("older ones are lost", x.undo(), LeafAsks.STATE);
        CHECK.due("the text stays", x.count(7), 6);
        x.ticks(50);
        CHECK.due("undo of ticks", x.undo(), 0);
        CHECK.due("time", x.count(3), 0);
        CHECK.due("the counter", x.told(1, 4), 0);
        x.ticks(1);
        x.ticks(2);
        x.undo();
        x.ticks(3);
        CHECK.due("two to undo", x.count(8), 2);
        x.undo();
        x.undo();
        CHECK.due("time at first", x.count(3), 0);
    }
}
