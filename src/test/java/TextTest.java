/** Promises 1 to 4: a new object, the text, the branches that it tells and the places of its faults. */
public final class TextTest {
    private static final Check CHECK = new Check();

    public static void main(String[] args) {
        newObject();
        typing();
        clearing();
        branchesTold();
        branchFaults();
        numberFaults();
        limits();
        toldAnew();
        CHECK.end("TextTest");
    }

    private static void newObject() {
        LeafAsks x = new LeafAsks();
        for (int what = 0; what <= 8; what++) {
            CHECK.due("count(" + what + ") of a new object", x.count(what), 0);
        }
        CHECK.due("back(1) of a new object", x.back(1), LeafAsks.STATE);
        CHECK.due("undo of a new object", x.undo(), LeafAsks.STATE);
        CHECK.due("orders of a new object", Check.orders(x, "1.1.0=1;"), -1001);
    }

    private static void typing() {
        LeafAsks x = new LeafAsks();
        CHECK.due("type(-1)", x.type(-1), LeafAsks.BAD);
        CHECK.due("type(256)", x.type(256), LeafAsks.BAD);
        CHECK.due("type(0)", x.type(0), 1);
        CHECK.due("type(255)", x.type(255), 2);
        for (int i = 3; i <= 160; i++) {
            CHECK.due("type of letter " + i, x.type(' '), i);
        }
        CHECK.due("type at 160", x.type(' '), LeafAsks.FULL);
        CHECK.due("BAD comes ahead of FULL", x.type(256), LeafAsks.BAD);
        CHECK.due("count(7)", x.count(7), 160);
    }

    private static void clearing() {
        LeafAsks x = new LeafAsks();
        CHECK.due("clear of nothing", x.clear(), 0);
        Check.type(x, "n 1 1");
        CHECK.due("clear", x.clear(), 5);
        CHECK.due("clear again", x.clear(), 0);
        CHECK.due("type behind clear", x.type('n'), 1);
    }

    private static void branchesTold() {
        CHECK.dueBranches("", 0);
        CHECK.dueBranches("   ", 0);
        CHECK.dueBranches("n1 1 0 99 0;", 1);
        CHECK.dueBranches("  n  9  9  5  5  5  ;  ", 1);
        CHECK.dueBranches("c1 1 1;c1 2 9;", 2);
        CHECK.dueBranches("t1 1 1;t1 2 3;", 2);
        LeafAsks x = new LeafAsks();
        CHECK.due("branches", Check.branches(x, "c5 5 3;n2 9 4 20 12;t2 1 2;"), 3);
        CHECK.due("the text is empty behind it", x.count(7), 0);
        CHECK.due("count(0)", x.count(0), 3);
        CHECK.due("count(1)", x.count(1), 1);
        CHECK.due("count(2)", x.count(2), 2);
        CHECK.due("a single's value", x.told(0, 4), 12);
        CHECK.due("a counter's value", x.told(1, 4), 0);
        CHECK.due("faulty branches", Check.branches(x, "n"), -11);
        CHECK.due("the text stays", x.count(7), 1);
        CHECK.due("the branches stay", x.count(0), 3);
    }

    private static void branchFaults() {
        CHECK.dueBranches("x", -10);
        CHECK.dueBranches("  ;", -12);
        CHECK.dueBranches("1", -10);
        CHECK.dueBranches("n", -11);
        CHECK.dueBranches("n  ", -13);
        CHECK.dueBranches("nn", -11);
        CHECK.dueBranches("n1 n", -13);
        CHECK.dueBranches("n1 1 ;", -15);
        CHECK.dueBranches("n1 1 0 1 1", -20);
        CHECK.dueBranches("n1 1 0 1 1 1", -21);
        CHECK.dueBranches("n1 1 0 1 1c", -20);
        CHECK.dueBranches("n1.1 0 1 1;", -12);
        CHECK.dueBranches("N1 1 0 1 1;", -10);
        CHECK.dueBranches("n\t1 1 0 1 1;", -11);
        CHECK.dueBranches("c1 1 1;;", -17);
        CHECK.dueBranches("c1 1 1 1;", -17);
        CHECK.dueBranches("t1 1 1 1;", -17);
        CHECK.dueBranches("c1 1 1;=", -17);
    }

    private static void numberFaults() {
        CHECK.dueBranches("n0 1 0 1 1;", -11);
        CHECK.dueBranches("n10 1 0 1 1;", -11);
        CHECK.dueBranches("n1 0 0 1 1;", -13);
        CHECK.dueBranches("n1 10 0 1 1;", -13);
        CHECK.dueBranches("n1 1 100 1 1;", -15);
        CHECK.dueBranches("n1 1 00 1 1;", -15);
        CHECK.dueBranches("n1 1 0 100 1;", -17);
        CHECK.dueBranches("n1 1 0 99999999999999999999 1;", -17);
        CHECK.dueBranches("n1 1 0 4294967297 1;", -17);
        CHECK.dueBranches("n1 1 8 7 7;", -17);
        CHECK.dueBranches("n1 1 8 8 8;", 1);
        CHECK.dueBranches("n1 1 8 10 7;", -20);
        CHECK.dueBranches("n1 1 8 10 11;", -20);
        CHECK.dueBranches("n1 1 8 10 09;", -20);
        CHECK.dueBranches("n1 1 8 10 8;", 1);
        CHECK.dueBranches("n1 1 8 10 10;", 1);
        CHECK.dueBranches("c1 1 0;", -15);
        CHECK.dueBranches("c1 1 10;", -15);
        CHECK.dueBranches("c1 1 01;", -15);
        CHECK.dueBranches("t1 1 0;", -15);
        CHECK.dueBranches("t1 1 4;", -15);
        CHECK.dueBranches("x 100", -10);
    }

    private static void limits() {
        String eight = "c1 1 1;c1 2 1;c1 3 1;c1 4 1;c1 5 1;c1 6 1;c1 7 1;c1 8 1;";
        CHECK.dueBranches(eight, 8);
        CHECK.dueBranches(eight + "  ", 8);
        CHECK.dueBranches(eight + " c1 9 1;", -67);
        CHECK.dueBranches(eight + "1", -66);
        CHECK.dueBranches("t1 1 1;t1 2 1;t1 3 1;", -24);
        CHECK.dueBranches("t1 1 1;c1 2 1;t1 3 1; t", -32);
        CHECK.dueBranches("c1 2 1;n1 2 0 1 1;", -20);
        CHECK.dueBranches("c1 2 1;n2 1 0 1 1;", 2);
        CHECK.dueBranches("c1 2 1;c2 2 1;t1  2", -28);
    }

    private static void toldAnew() {
        LeafAsks x = Check.of("t1 1 1;c1 2 4;n1 3 0 9 5;");
        Check.orders(x, "1.1.0.1=4;1.1.1.1=7;1.3.0=6;");
        x.ticks(5);
        x.keep(0);
        CHECK.due("branches with the same names", Check.branches(x, "t1 1 1;c1 2 4;n1 3 0 9 5;"), 3);
        int[] due = {3, 1, 2, 0, 0, 0, 0, 0, 0};
        for (int what = 0; what < due.length; what++) {
            CHECK.due("count(" + what + ") told anew", x.count(what), due[what]);
        }
        CHECK.due("counter told anew", x.told(0, 4), 0);
        CHECK.due("single told anew", x.told(1, 4), 5);
        CHECK.due("row told anew", x.status(0, 1), 0);
        CHECK.due("images are gone", x.back(0), LeafAsks.STATE);
        CHECK.due("nothing to undo", x.undo(), LeafAsks.STATE);
        Check.orders(x, "1.1.0.1=4;1.1.1.1=7;");
        CHECK.due("no branches", Check.branches(x, ""), 0);
        CHECK.due("no leaves", x.count(2), 0);
    }
}
