/** The boundary cases of promises 1 to 4, sentence by sentence. */
public final class EdgesOfTextTest {
    private static final Edges EDGES = new Edges();
    private static final int[] FAR = {Integer.MIN_VALUE, -1000, 1000, Integer.MAX_VALUE};

    public static void main(String[] args) {
        newObject();
        letters();
        fullText();
        clearing();
        howManyBranches();
        howManyTables();
        namesOfBranches();
        sameNames();
        boundsOfSingles();
        valuesOfSingles();
        stepsAndColumns();
        noItems();
        blanks();
        otherLetters();
        wrongNumbers();
        endsTooEarly();
        firstFault();
        textIsEmptyThen();
        faultsChangeNothing();
        toldAnew();
        EDGES.end("EdgesOfTextTest");
    }

    private static void newObject() {
        EDGES.sentence(1, "No BRANCHES; TIME 0.");
        LeafAsks x = new LeafAsks();
        for (int what = 0; what <= 8; what++) {
            EDGES.due("count(" + what + ")", x.count(what), 0);
        }
        EDGES.due("told(0, 0)", x.told(0, 0), -5);
        EDGES.due("next(0, -1, -1, -1)", x.next(0, -1, -1, -1), LeafAsks.NONE);
        EDGES.due("bulk of all", x.bulk(0, -1, -1, -1, 99, 999), 0);
        EDGES.due("walk(0)", x.walk(0), 0);
        EDGES.due("having(0, -1)", x.having(0, -1), 0);
        EDGES.due("status(0, 1)", x.status(0, 1), LeafAsks.BAD);
        EDGES.due("needs(0, 1)", x.needs(0, 1), LeafAsks.BAD);
        EDGES.due("notice(0, 0)", x.notice(0, 0), LeafAsks.BAD);
        EDGES.due("answers(0)", x.answers(0), LeafAsks.BAD);
        EDGES.due("undo()", x.undo(), LeafAsks.STATE);
        EDGES.due("back(0)", x.back(0), LeafAsks.STATE);
        EDGES.due("back(1)", x.back(1), LeafAsks.STATE);
        EDGES.due("clear()", x.clear(), 0);
        EDGES.due("orders()", x.orders(), -10);
        EDGES.due("orders '1.1.0=0;'", Check.orders(x, "1.1.0=0;"), -1001);
        EDGES.due("keep(0)", x.keep(0), 0);
        EDGES.due("ticks(1) without branches", x.ticks(1), 1);
    }

    private static void letters() {
        EDGES.sentence(2, "A letter (0 .. 255) comes to THE TEXT: how many it has.");
        LeafAsks all = new LeafAsks();
        for (int letter = 0; letter <= 255; letter++) {
            if (letter == 128) {
                all.clear();
            }
            EDGES.due("type(" + letter + ")", all.type(letter), letter % 128 + 1);
        }
        EDGES.refused("type(-1)", x -> x.type(-1), LeafAsks.BAD);
        EDGES.refused("type(256)", x -> x.type(256), LeafAsks.BAD);
        for (int letter : FAR) {
            EDGES.refused("type(" + letter + ")", x -> x.type(letter), LeafAsks.BAD);
        }
        LeafAsks x = new LeafAsks();
        x.type(-1);
        EDGES.due("the first letter behind a refused one", x.type('n'), 1);
    }

    private static void typeBlanks(LeafAsks x, int many) {
        for (int i = 0; i < many; i++) {
            x.type(' ');
        }
    }

    private static void fullText() {
        EDGES.sentence(2, "FULL: 160");
        LeafAsks x = new LeafAsks();
        typeBlanks(x, 158);
        EDGES.due("letter 159", x.type(' '), 159);
        EDGES.due("letter 160", x.type(' '), 160);
        EDGES.due("letter 161", x.type(' '), LeafAsks.FULL);
        EDGES.due("letter 161 once more", x.type(' '), LeafAsks.FULL);
        EDGES.due("count(7)", x.count(7), 160);
        EDGES.refused("letter 161 changes nothing", EdgesOfTextTest::fullOfOrders, y -> y.type('x'), LeafAsks.FULL);
        EDGES.due("the text can still be told", full().orders(), 1);
        EDGES.due("clear()", x.clear(), 160);
        EDGES.due("the first letter behind it", x.type(' '), 1);
        EDGES.sentence(2, "the first of these that is so: BAD");
        EDGES.refused("type(-1) of a full text", EdgesOfTextTest::fullOfOrders, y -> y.type(-1), LeafAsks.BAD);
        EDGES.refused("type(256) of a full text", EdgesOfTextTest::fullOfOrders, y -> y.type(256), LeafAsks.BAD);
    }

    private static void fullOfOrders(LeafAsks x) {
        Check.branches(x, "n1 1 0 9 5;");
        typeBlanks(x, 152);
        Check.type(x, "1.1.0=7;");
    }

    private static LeafAsks full() {
        LeafAsks x = new LeafAsks();
        fullOfOrders(x);
        x.type('x');
        return x;
    }

    private static void clearing() {
        EDGES.sentence(3, "THE TEXT is empty: how many letters it had.");
        LeafAsks x = new LeafAsks();
        for (int many : new int[] {0, 1, 159, 160, 0}) {
            typeBlanks(x, many);
            EDGES.due("clear() of " + many, x.clear(), many);
            EDGES.due("count(7) behind it", x.count(7), 0);
        }
        Check.type(x, "n1 1 0 9 5;");
        x.clear();
        EDGES.due("branches() behind it: none are told", x.branches(), 0);
        EDGES.due("count(0)", x.count(0), 0);
        LeafAsks rich = new LeafAsks();
        Edges.rich(rich);
        var ahead = Edges.world(rich);
        EDGES.due("clear() of the rich object", rich.clear(), 8);
        EDGES.due("leaves and notices stay", Edges.world(rich).equals(ahead));
        EDGES.due("what may be undone stays", rich.count(8), 6);
        EDGES.due("images stay", rich.back(1), 11);
    }

    private static String counters(int many) {
        String text = "";
        for (int i = 1; i <= many; i++) {
            text += "c1 " + i + " 1;";
        }
        return text;
    }

    private static void howManyBranches() {
        EDGES.sentence(4, "BRANCHES (8 at most)");
        EDGES.dueBranches(counters(1), 1);
        EDGES.dueBranches(counters(7), 7);
        EDGES.dueBranches(counters(8), 8);
        EDGES.dueBranches(counters(8) + "   ", 8);
        EDGES.sentence(4, "the letter of a ninth BRANCH");
        EDGES.refusedBranches(counters(9), -66);
        EDGES.refusedBranches(counters(8) + "c", -66);
        EDGES.refusedBranches(counters(8) + "  n 9 9 0 1 1;", -68);
        EDGES.refusedBranches(counters(8) + "t9 9 1;", -66);
        EDGES.refusedBranches(counters(8) + ";", -66);
        LeafAsks x = Check.of(counters(8));
        EDGES.due("count(0) of eight", x.count(0), 8);
        EDGES.due("the eighth one's leaf", x.leaf(1, 8, 0, -1), 7);
        EDGES.due("eight told behind eight", Check.branches(x, counters(8)), 8);
        LeafAsks singles = Check.of("n8 1 0 99 18;n7 1 0 99 17;n6 1 0 99 16;n5 1 0 99 15;"
            + "n4 1 0 99 14;n3 1 0 99 13;n2 1 0 99 12;n1 1 0 99 11;");
        for (int k = 0; k < 8; k++) {
            EDGES.due("single " + k + " of eight", singles.told(k, 4), 11 + k);
        }
    }

    private static void howManyTables() {
        EDGES.sentence(4, "a TABLE (2 at most)");
        EDGES.dueBranches("t1 1 1;", 1);
        EDGES.dueBranches("t1 1 1;t1 2 1;", 2);
        EDGES.dueBranches("t1 1 1;n1 3 0 1 0;c1 4 1;t1 2 1;", 4);
        EDGES.sentence(4, "a third t");
        EDGES.refusedBranches("t1 1 1;t1 2 1;t1 3 1;", -24);
        EDGES.refusedBranches("t1 1 1;t1 2 1;c1 3 1; t1 4 1;", -32);
        EDGES.refusedBranches("t1 1 1;t1 2 1;t", -24);
        LeafAsks x = Check.of("t1 1 1;t1 2 1;");
        EDGES.due("two told behind two", Check.branches(x, "t3 1 1;t3 2 1;"), 2);
        EDGES.due("two told behind a third that was refused", Check.branches(x, "t1 1 1;t1 2 1;t"), -24);
        EDGES.due("and again", Check.branches(x, "t3 1 1;t3 2 1;"), 2);
    }

    private static void namesOfBranches() {
        EDGES.sentence(4, "have NAMES of two numbers, 1 to 9 each");
        String[] behind = {"n", " 0 9 5;", "c", " 1;", "t", " 1;"};
        for (int i = 0; i < behind.length; i += 2) {
            EDGES.dueBranches(behind[i] + "1 1" + behind[i + 1], 1);
            EDGES.dueBranches(behind[i] + "9 9" + behind[i + 1], 1);
            EDGES.dueBranches(behind[i] + "1 9" + behind[i + 1], 1);
            EDGES.dueBranches(behind[i] + "9 1" + behind[i + 1], 1);
            EDGES.dueBranches(behind[i] + "0 1" + behind[i + 1], -11);
            EDGES.dueBranches(behind[i] + "10 1" + behind[i + 1], -11);
            EDGES.dueBranches(behind[i] + "1 0" + behind[i + 1], -13);
            EDGES.dueBranches(behind[i] + "1 10" + behind[i + 1], -13);
            EDGES.dueBranches(behind[i] + "1" + behind[i + 1], i == 0 ? -13 : -14);
        }
        EDGES.refusedBranches("c10 1 1;", -11);
        EDGES.refusedBranches("c1 0 1;", -13);
    }

    private static void sameNames() {
        EDGES.sentence(4, "no two the same");
        EDGES.dueBranches("c1 2 1;c1 3 1;c2 2 1;c2 1 1;", 4);
        EDGES.sentence(4, "a B by which one would have the NAME of another one");
        EDGES.refusedBranches("c1 2 1;c1 2 1;", -20);
        EDGES.dueBranches("c1 2 1;n1  2 0 9 5;", -21);
        EDGES.dueBranches("c1 2 1;t1 2 1;", -20);
        EDGES.dueBranches("t1 2 1;c1 3 1;c1 4 1;n1 2 0 9 5;", -34);
        EDGES.dueBranches("c5 5 1;c1 3 1;c9 9 1;c9 9 1;", -34);
        EDGES.dueBranches(counters(7) + "c1 7 1;", -62);
        EDGES.dueBranches(counters(7) + "c1 1 1;", -62);
        LeafAsks x = Check.of("c1 2 1;");
        EDGES.due("the name of one that was there, told anew", Check.branches(x, "n1 2 0 9 5;"), 1);
    }

    private static void boundsOfSingles() {
        EDGES.sentence(4, "bounds L, H (0 to 99, L no more than H)");
        EDGES.dueBranches("n1 1 0 0 0;", 1);
        EDGES.dueBranches("n1 1 0 99 0;", 1);
        EDGES.dueBranches("n1 1 99 99 99;", 1);
        EDGES.refusedBranches("n1 1 100 100 100;", -15);
        EDGES.refusedBranches("n1 1 0 100 50;", -17);
        EDGES.dueBranches("n1 1 49 50 50;", 1);
        EDGES.dueBranches("n1 1 50 50 50;", 1);
        EDGES.refusedBranches("n1 1 51 50 50;", -18);
        EDGES.dueBranches("n1 1 1 0 0;", -17);
        EDGES.dueBranches("n1 1 99 98 99;", -18);
    }

    private static void valuesOfSingles() {
        EDGES.sentence(4, "and a value in them");
        int[] in = {20, 21, 29, 30};
        for (int value : in) {
            LeafAsks x = new LeafAsks();
            EDGES.due("value " + value, Check.branches(x, "n1 1 20 30 " + value + ";"), 1);
            EDGES.due("told(0, 4)", x.told(0, 4), value);
        }
        EDGES.refusedBranches("n1 1 20 30 19;", -21);
        EDGES.refusedBranches("n1 1 20 30 31;", -21);
        EDGES.dueBranches("n1 1 0 99 99;", 1);
        EDGES.dueBranches("n1 1 0 99 100;", -20);
        EDGES.dueBranches("n1 1 5 5 4;", -19);
        EDGES.dueBranches("n1 1 5 5 6;", -19);
    }

    private static void stepsAndColumns() {
        EDGES.sentence(4, "a COUNTER with a STEP 1 to 9, its value 0 at first");
        for (int step = 1; step <= 9; step++) {
            LeafAsks x = Check.of("c1 1 " + step + ";");
            EDGES.due("a value of STEP " + step, x.told(0, 4), 0);
            x.ticks(1);
            EDGES.due("behind a tick of STEP " + step, x.told(0, 4), step);
        }
        EDGES.refusedBranches("c1 1 0;", -15);
        EDGES.refusedBranches("c1 1 10;", -15);
        EDGES.sentence(4, "with 1 to 3 COLUMNS, no ROWS at first");
        for (int columns = 1; columns <= 3; columns++) {
            LeafAsks x = Check.of("t1 1 " + columns + ";");
            EDGES.due("leaves of " + columns, x.count(2), 0);
            for (int row = 1; row <= 9; row++) {
                EDGES.due("row " + row + " of " + columns, x.status(0, row), 0);
                EDGES.due("needs of row " + row, x.needs(0, row), columns + 1);
            }
        }
        EDGES.refusedBranches("t1 1 0;", -15);
        EDGES.refusedBranches("t1 1 4;", -15);
    }

    private static void noItems() {
        EDGES.sentence(4, "BRANCHES are told by ITEMS (none, too), each ended by ;");
        EDGES.dueBranches("", 0);
        EDGES.dueBranches(" ", 0);
        EDGES.dueBranches("c1 1 1;", 1);
        EDGES.dueBranches("c1 1 1", -16);
        EDGES.dueBranches("c1 1 1;c1 2 1", -23);
        EDGES.dueBranches("c1 1 1 c1 2 1;", -17);
        EDGES.dueBranches("c1 1 1 1;", -17);
        EDGES.dueBranches("n1 1 0 9 5 5;", -21);
        EDGES.dueBranches("t1 1 1 1;", -17);
        EDGES.dueBranches(";", -10);
        EDGES.dueBranches("c1 1 1;;", -17);
        EDGES.dueBranches("c1 1;", -14);
        EDGES.dueBranches("n1 1 0 9;", -18);
        LeafAsks x = new LeafAsks();
        Edges.rich(x);
        EDGES.due("no items, to the rich object", Check.branches(x, ""), 0);
        for (int what = 0; what <= 8; what++) {
            EDGES.due("count(" + what + ") behind it", x.count(what), 0);
        }
    }

    private static void blanks() {
        EDGES.sentence(4, "blanks (32) may stand ahead of, between and behind TOKENS");
        EDGES.dueBranches("n1 1 0 9 5;c1 2 1;t1 3 1;", 3);
        EDGES.dueBranches("  n  1  1  0  9  5  ;  c  1  2  1  ;  t  1  3  1  ;  ", 3);
        for (int letter : new int[] {0, 9, 10, 13, 31, 33, 95, 160}) {
            EDGES.dueBranches((char) letter + "c1 1 1;", -10);
            EDGES.dueBranches("c" + (char) letter + "1 1 1;", -11);
            EDGES.dueBranches("c1" + (char) letter + "1 1;", -12);
            EDGES.dueBranches("c1 1 1" + (char) letter + ";", -16);
            EDGES.dueBranches("c1 1 1;" + (char) letter, -17);
        }
        EDGES.sentence(4, "needed between two NUMBERS alone");
        EDGES.dueBranches("n11 0 9 5;", -11);
        EDGES.dueBranches("n1 10 9 5;", -13);
        EDGES.dueBranches("n1 1 09 5;", -15);
        EDGES.dueBranches("n1 1 2 345;", -17);
        EDGES.dueBranches("c1 11;", -13);
        EDGES.dueBranches("c1 1 1;c1 2 1;", 2);
        EDGES.dueBranches("c1 1 1 ; c1 2 1 ;", 2);
    }

    private static void otherLetters() {
        EDGES.sentence(4, "TOKENS are the letters n, c, t, NUMBERS (rows of figures) and ; .");
        for (int letter = 0; letter <= 255; letter++) {
            boolean may = letter == 'n' || letter == 'c' || letter == 't' || letter == ' ';
            EDGES.dueBranches("" + (char) letter, !may ? -10 : letter == ' ' ? 0 : -11);
            boolean figure = letter >= '1' && letter <= '9';
            EDGES.dueBranches("c1 1 1;c" + (char) letter, figure || letter == ' ' ? -19 : -18);
            boolean ends = letter == ';';
            EDGES.dueBranches("c1 1 1 " + (char) letter, ends ? 1 : letter == ' ' ? -18 : -17);
        }
    }

    private static void wrongNumbers() {
        EDGES.sentence(4, "of any other letter, a NUMBER above 99 or with a 0 ahead of others, that TOKEN's");
        String[] wrong = {"100", "00", "01", "05", "005", "099", "110", "256", "257", "65537", "4294967297",
            "18446744073709551617", "999999999999999999999999999999"};
        for (String number : wrong) {
            EDGES.dueBranches("n" + number + " 1 0 9 5;", -11);
            EDGES.dueBranches("n1 " + number + " 0 9 5;", -13);
            EDGES.dueBranches("n1 1 " + number + " 9 5;", -15);
            EDGES.dueBranches("n1 1 0 " + number + " 5;", -17);
            EDGES.dueBranches("n1 1 0 9 " + number + ";", -19);
            EDGES.dueBranches("c1 1 " + number + ";", -15);
            EDGES.dueBranches("t1 1  " + number + ";", -16);
            EDGES.dueBranches(number, -10);
            EDGES.dueBranches("c1 1 1 " + number + ";", -17);
        }
        EDGES.dueBranches("n1 1 0 99 99;", 1);
        EDGES.dueBranches("n1 1 0 10 10;", 1);
        EDGES.dueBranches("n1 1 0 0 0;", 1);
    }

    private static void endsTooEarly() {
        EDGES.sentence(4, "the text's length, if it ends too early");
        for (String text : new String[] {"n1 1 0 9 5;", "c1 1 1;", "t1 1 1;"}) {
            for (int length = 1; length < text.length(); length++) {
                EDGES.dueBranches(text.substring(0, length), -10 - length);
                EDGES.dueBranches(text.substring(0, length) + "  ", -12 - length);
                EDGES.dueBranches("c2 2 2;" + text.substring(0, length), -17 - length);
            }
            EDGES.dueBranches(text, 1);
        }
        String fill = " ".repeat(149);
        EDGES.dueBranches(fill + "n1 1 0 9 5;", 1);
        EDGES.dueBranches(fill + " n1 1 0 9 5", -170);
    }

    private static void firstFault() {
        EDGES.sentence(4, "the place of the first letter of the first TOKEN that can't stand there");
        EDGES.dueBranches("c0 0 0;", -11);
        EDGES.dueBranches("c1 0 0;", -13);
        EDGES.dueBranches("c1 1 0;x", -15);
        EDGES.dueBranches("c1 1 1 x 100", -17);
        EDGES.dueBranches("nn 100 x", -11);
        EDGES.dueBranches("   ;", -13);
        EDGES.dueBranches("c   12 1 1;", -14);
    }

    private static void textIsEmptyThen() {
        EDGES.sentence(4, "THE TEXT tells BRANCHES, and is empty then: how many.");
        LeafAsks x = Check.of("");
        Check.type(x, "c1 1 1;n1 2 0 9 5;");
        EDGES.due("branches()", x.branches(), 2);
        EDGES.due("count(7)", x.count(7), 0);
        EDGES.due("the next letter is the first one", x.type('c'), 1);
        EDGES.due("clear()", x.clear(), 1);
        EDGES.due("branches() once more: none are told", x.branches(), 0);
        EDGES.due("count(0)", x.count(0), 0);
    }

    private static void faultsChangeNothing() {
        EDGES.sentence(4, "-10 less FAULT: nothing changes, THE TEXT stays.");
        EDGES.refusedBranches("c1 1 1;n2 2 0 9 5;t3 3 3", -34);
        EDGES.refusedBranches("x", -10);
        EDGES.refusedBranches("c1 1 1;;", -17);
        LeafAsks x = Check.of("n1 1 0 9 5;");
        Check.type(x, "c2 2 2");
        EDGES.due("a text without its end", x.branches(), -16);
        EDGES.due("the branch that was", x.leaf(1, 1, 0, -1), 0);
        EDGES.due("letters", x.count(7), 6);
        EDGES.due("one more", x.type(';'), 7);
        EDGES.due("the text with its end", x.branches(), 1);
        EDGES.due("the branch that is", x.leaf(2, 2, 0, -1), 0);
    }

    private static void toldAnew() {
        EDGES.sentence(4, "(BRANCHES told anew: as told, TIME 0, no NOTICES, none DROPPED, GIVEN UP; IMAGES are gone, "
            + "nothing can be UNDONE.)");
        LeafAsks x = new LeafAsks();
        Edges.rich(x);
        EDGES.due("the same branches", Check.branches(x, "t4 1 2;n3 1 5 30 9;c1 2 7;t2 1 1;"), 4);
        int[] due = {4, 2, 2, 0, 0, 0, 0, 0, 0};
        for (int what = 0; what < due.length; what++) {
            EDGES.due("count(" + what + ")", x.count(what), due[what]);
        }
        EDGES.due("the counter", x.told(0, 4), 0);
        EDGES.due("the single", x.told(1, 4), 9);
        for (int row = 1; row <= 9; row++) {
            EDGES.due("row " + row + " of the first table", x.status(0, row), 0);
            EDGES.due("row " + row + " of the second table", x.status(1, row), 0);
        }
        EDGES.due("notice(0, 0)", x.notice(0, 0), LeafAsks.BAD);
        EDGES.due("undo()", x.undo(), LeafAsks.STATE);
        EDGES.due("back(0)", x.back(0), LeafAsks.STATE);
        EDGES.due("back(1)", x.back(1), LeafAsks.STATE);
        EDGES.due("a row made anew has no old cells", Check.orders(x, "4.1.0.5=5;4.1.2.5=0;"), 2);
        EDGES.due("its needs", x.needs(1, 5), 2);
    }
}
