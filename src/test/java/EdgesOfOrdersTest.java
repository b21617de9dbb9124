/** The boundary cases of promise 5, sentence by sentence: orders, what they do to rows, the notices that they make. */
public final class EdgesOfOrdersTest {
    private static final Edges EDGES = new Edges();
    private static final int AWAY = 0, AT_WORK = 1, RESTING = 2, UNREADY = 3;
    // Orders by which row 5 of table 1.1 (two columns), not there at first, has each STATUS.
    private static final String[] TO_STATUS = {
        "1.1.0.5=6;", "1.1.0.5=4;1.1.1.5=7;1.1.2.5=8;", "1.1.0.5=5;1.1.1.5=7;1.1.2.5=8;", "1.1.0.5=5;1.1.1.5=7;",
    };

    public static void main(String[] args) {
        howManyItems();
        lengthsOfNames();
        numbersOfNames();
        valuesTold();
        signs();
        blanks();
        endsTooEarly();
        faultsComeFirst();
        places();
        noSuchName();
        counters();
        neverSuchValue();
        notAsThingsAre();
        statuses();
        takenAway();
        filling();
        leftUnfilled();
        oneBehindAnother();
        allOrNone();
        emptyThen();
        whichNotices();
        orderOfNotices();
        howManyNotices();
        EDGES.end("EdgesOfOrdersTest");
    }

    private static LeafAsks small() {
        return Check.of("t1 1 2;c1 2 7;n2 1 5 30 9;");
    }

    private static LeafAsks withStatus(int status) {
        LeafAsks x = small();
        Check.orders(x, TO_STATUS[status]);
        EDGES.due("the status that is wanted", x.status(0, 5), status);
        return x;
    }

    private static void howManyItems() {
        EDGES.sentence(5, "ORDERS are told by ITEMS (1 to 8), each ended by ;");
        String item = "3.1.0=9;";
        EDGES.refusedOrders("", -10);
        EDGES.refusedOrders("   ", -13);
        EDGES.dueOrders(Check.of("n3 1 5 30 9;"), item, 1);
        EDGES.dueOrders(Check.of("n3 1 5 30 9;"), item.repeat(2), 2);
        EDGES.dueOrders(Check.of("n3 1 5 30 9;"), item.repeat(7), 7);
        EDGES.dueOrders(Check.of("n3 1 5 30 9;"), item.repeat(8), 8);
        EDGES.dueOrders(Check.of("n3 1 5 30 9;"), item.repeat(8) + "  ", 8);
        EDGES.refusedOrders("3.1.0=9", -17);
        EDGES.refusedOrders("3.1.0=9 3.1.0=9;", -18);
        EDGES.refusedOrders(";", -10);
        EDGES.refusedOrders(item + ";", -18);
        EDGES.sentence(5, "a ninth ITEM's first NUMBER");
        EDGES.refusedOrders(item.repeat(9), -74);
        EDGES.refusedOrders(item.repeat(8) + "  3", -76);
        EDGES.refusedOrders(item.repeat(8) + ".", -74);
    }

    private static void lengthsOfNames() {
        EDGES.sentence(5, "A NAME is a row of 1 to 4 numbers 0 to 9.");
        EDGES.refusedOrders("=1;", -10);
        EDGES.refusedOrders("1=1;", -1001);
        EDGES.refusedOrders("1.1=1;", -1001);
        EDGES.refusedOrders("1.1.1=1;", -1001);
        EDGES.refusedOrders("1.1.1.1=1;", -1001);
        EDGES.sentence(5, "a . behind a fourth number");
        EDGES.refusedOrders("1.1.1.1.1=1;", -17);
        EDGES.refusedOrders("1.1.1.1.", -17);
        EDGES.refusedOrders("1.1.1.1  .=1;", -19);
        EDGES.refusedOrders("2.1.0.1=1;1.1.1.1.", -27);
        EDGES.sentence(5, "a NAME (numbers, a . between each two)");
        EDGES.refusedOrders("1 1.1=1;", -12);
        EDGES.refusedOrders("1..1=1;", -12);
        EDGES.refusedOrders(".1=1;", -10);
        EDGES.refusedOrders("1.=1;", -12);
        EDGES.refusedOrders("1;", -11);
        EDGES.refusedOrders("1==1;", -12);
    }

    private static void numbersOfNames() {
        EDGES.sentence(5, "A NAME is a row of 1 to 4 numbers 0 to 9.");
        String[] ahead = {"", "1.", "1.1.", "1.1.1."};
        String[] behind = {".1.1.1=1;", ".1.1=1;", ".1=1;", "=1;"};
        for (int i = 0; i < 4; i++) {
            for (int number : new int[] {0, 9}) {
                EDGES.dueOrders(new LeafAsks(), ahead[i] + number + behind[i], -1001);
            }
            for (String number : new String[] {"10", "99", "100", "00", "01", "4294967297"}) {
                EDGES.dueOrders(new LeafAsks(), ahead[i] + number + behind[i], -10 - 2 * i);
                EDGES.dueOrders(new LeafAsks(), ahead[i] + number, -10 - 2 * i);
            }
        }
        LeafAsks x = Check.of("n9 9 0 9 5;t1 1 1;");
        EDGES.dueOrders(x, "9.9.0=6;", 1);
        EDGES.dueOrders(x, "1.1.0.9=5;", 1);
        EDGES.refusedOrders("2.1.0.10=4;", -16);
    }

    private static void valuesTold() {
        EDGES.sentence(5, "=, a NUMBER 0 to 99");
        LeafAsks x = Check.of("n1 1 0 99 50;");
        EDGES.dueOrders(x, "1.1.0=0;", 1);
        EDGES.due("told(0, 4)", x.told(0, 4), 0);
        EDGES.dueOrders(x, "1.1.0=99;", 1);
        EDGES.due("told(0, 4)", x.told(0, 4), 99);
        for (String number : new String[] {"100", "00", "099", "01", "256", "4294967296", "18446744073709551616"}) {
            EDGES.dueOrders(x, "1.1.0=" + number + ";", -16);
            EDGES.dueOrders(x, "1.1.0=" + number, -16);
        }
        EDGES.dueOrders(x, "1.1.0=;", -16);
        EDGES.dueOrders(x, "1.1.0==1;", -16);
        EDGES.dueOrders(x, "1.1.0=1.1;", -17);
        EDGES.dueOrders(x, "1.1.0=1=", -17);
        EDGES.dueOrders(x, "1.1.0=1 1;", -18);
        EDGES.dueOrders(x, "1.1.0=-1;", -16);
        EDGES.refusedOrders("3.1.0=100;", -16);
        EDGES.refusedOrders("3.1.0=09;", -16);
    }

    private static void signs() {
        EDGES.sentence(5, "TOKENS are NUMBERS, the signs . = and ; .");
        LeafAsks x = small();
        for (int letter = 0; letter <= 255; letter++) {
            if (letter == 150) {
                x = small();
            }
            boolean goesOn = letter >= '0' && letter <= '9' || letter == ' ';
            EDGES.due("letter " + letter + " at first", Check.orders(x, "" + (char) letter), goesOn ? -11 : -10);
        }
        for (int letter = 0; letter <= 255; letter++) {
            boolean figure = letter >= '0' && letter <= '9';
            boolean goesOn = letter == '.' || letter == '=' || letter == ' ';
            int due = figure ? -10 : goesOn ? -12 : -11;
            EDGES.due("letter " + letter + " behind a number", Check.orders(new LeafAsks(), "1" + (char) letter), due);
            int then = figure ? -13 : letter == ';' ? -1001 : letter == ' ' ? -15 : -14;
            EDGES.due("letter " + letter + " at last", Check.orders(new LeafAsks(), "1= 0" + (char) letter), then);
        }
    }

    private static void blanks() {
        EDGES.sentence(5, "blanks (32) may stand ahead of, between and behind TOKENS");
        LeafAsks x = small();
        EDGES.dueOrders(x, "  2  .  1  .  0  =  10  ;  1  .  1  .  0  .  9  =  5  ;  ", 2);
        EDGES.due("the single", x.told(x.leaf(2, 1, 0, -1), 4), 10);
        EDGES.due("the row", x.status(0, 9), UNREADY);
        for (int letter : new int[] {9, 10, 31, 33, 160}) {
            EDGES.dueOrders(small(), (char) letter + "2.1.0=9;", -10);
            EDGES.dueOrders(small(), "2" + (char) letter + ".1.0=9;", -11);
            EDGES.dueOrders(small(), "2.1.0=9;" + (char) letter, -18);
        }
        EDGES.sentence(5, "needed between two NUMBERS alone");
        EDGES.dueOrders(small(), "2.1.0=9;2.1.0=9;", 2);
        EDGES.dueOrders(small(), "2.1.0=1 0;", -18);
    }

    private static void endsTooEarly() {
        EDGES.sentence(5, "the text's length, if it ends too early");
        String text = "1.1.0.5=5;";
        for (int length = 0; length < text.length(); length++) {
            LeafAsks x = small();
            EDGES.dueOrders(x, text.substring(0, length), -10 - length);
            EDGES.dueOrders(x, text.substring(0, length) + "  ", -12 - length);
            if (length > 0) {
                EDGES.dueOrders(x, "2.1.0=9;" + text.substring(0, length), -18 - length);
            }
            EDGES.due("the row", x.status(0, 5), AWAY);
        }
        EDGES.dueOrders(small(), text, 1);
        EDGES.dueOrders(small(), " ".repeat(150) + text, 1);
        EDGES.dueOrders(small(), " ".repeat(151) + text.substring(0, 9), -170);
    }

    private static void faultsComeFirst() {
        EDGES.sentence(5, "the place of the first letter of the first TOKEN that can't stand there");
        EDGES.refusedOrders("10.10=100;", -10);
        EDGES.refusedOrders("1.10=100;", -12);
        EDGES.refusedOrders("1.1=100;x", -14);
        EDGES.sentence(5, "-10 less FAULT; -1000 less 10 times the place, less REASON, of one that can't be done");
        EDGES.refusedOrders("9.9.9.9=1;x", -20);
        EDGES.refusedOrders("9.9.9.9=1;3.1.0=9", -27);
        EDGES.refusedOrders("1.2.0=1;3.1.0=9;.", -26);
    }

    private static void places() {
        EDGES.sentence(5, "its place among ITEMS (0 on) and its REASON are told");
        for (int place = 0; place < 8; place++) {
            EDGES.refusedOrders("3.1.0=9;".repeat(place) + "3.1.0=4;", -1003 - 10 * place);
            EDGES.dueOrders(small(), "2.1.0=9;".repeat(place) + "9.9.9=4;", -1001 - 10 * place);
            EDGES.dueOrders(small(), "2.1.0=9;".repeat(place) + "1.2.0=4;", -1002 - 10 * place);
            EDGES.dueOrders(small(), "2.1.0=9;".repeat(place) + "1.1.1.1=4;", -1004 - 10 * place);
            EDGES.dueOrders(small(), "2.1.0=9;".repeat(place) + "1.1.0.1=4;", -1005 - 10 * place);
        }
        EDGES.dueOrders(small(), "2.1.0=9;2.1.0=4;1.2.0=4;9=1;", -1013);
    }

    private static void noSuchName() {
        EDGES.sentence(5, "no such BRANCH");
        LeafAsks x = small();
        for (String name : new String[] {"0", "1", "2", "9", "1.0", "2.2", "2.0.0", "2.2.0", "1.3.0", "3.1.0", "0.1.0",
            "2.1", "1.2", "1.1", "1.3.0.1", "2.9.0.1"}) {
            EDGES.dueOrders(x, name + "=9;", -1001);
        }
        EDGES.sentence(5, "behind a SINGLE's, a COUNTER's not just one 0");
        for (String branch : new String[] {"2.1", "1.2"}) {
            LeafAsks y = small();
            for (String rest : new String[] {"", ".1", ".9", ".0.0", ".0.1", ".0.9", ".1.0"}) {
                EDGES.dueOrders(y, branch + rest + "=9;", -1001);
            }
            EDGES.dueOrders(y, branch + ".0=9;", branch.equals("2.1") ? 1 : -1002);
        }
        EDGES.sentence(5, "behind a TABLE's not a column that it has and a ROW 1 to 9");
        for (int columns = 1; columns <= 3; columns++) {
            LeafAsks y = Check.of("t1 1 " + columns + ";");
            for (int column = 0; column <= 9; column++) {
                int due = column == 0 ? 1 : column <= columns ? -1004 : -1001;
                EDGES.due("column " + column + " of " + columns, Check.orders(y, "1.1." + column + ".1=6;"), due);
                EDGES.due("column " + column + ", row 0", Check.orders(y, "1.1." + column + ".0=6;"), -1001);
                EDGES.due("column " + column + ", no row", Check.orders(y, "1.1." + column + "=6;"), -1001);
            }
            for (int row = 1; row <= 9; row++) {
                EDGES.due("row " + row, Check.orders(y, "1.1.0." + row + "=6;"), 1);
            }
        }
        EDGES.refusedOrders("2.1.2.1=1;", -1001);
        EDGES.refusedOrders("2.1.0.0=4;", -1001);
    }

    private static void counters() {
        EDGES.sentence(5, "2: it is a COUNTER's");
        for (int value : new int[] {0, 1, 99}) {
            EDGES.refusedOrders("1.2.0=" + value + ";", -1002);
        }
        EDGES.sentence(5, "the first REASON that is so: 1: no LEAF ever has that NAME");
        EDGES.refusedOrders("1.2.1=0;", -1001);
        EDGES.refusedOrders("1.2=0;", -1001);
        EDGES.refusedOrders("2.1.2.9=7;", -1001);
    }

    private static void neverSuchValue() {
        EDGES.sentence(5, "3: the value is not one that it may have (a SINGLE's bounds; column 0: 1, 2, 4, 5, 6)");
        LeafAsks x = small();
        int[][] single = {{0, -1003}, {4, -1003}, {5, 1}, {6, 1}, {29, 1}, {30, 1}, {31, -1003}, {99, -1003}};
        for (int[] s : single) {
            EDGES.dueOrders(x, "2.1.0=" + s[0] + ";", s[1]);
            EDGES.due("the single behind " + s[0], x.told(1, 4), s[1] == 1 ? s[0] : s[0] > 5 ? 30 : 9);
        }
        EDGES.refusedOrders("3.1.0=4;", -1003);
        EDGES.refusedOrders("3.1.0=31;", -1003);
        for (int status = AWAY; status <= UNREADY; status++) {
            LeafAsks y = withStatus(status);
            for (int value : new int[] {0, 3, 7, 8, 9, 10, 14, 99}) {
                EDGES.dueOrders(y, "1.1.0.5=" + value + ";", -1003);
                EDGES.due("the row behind " + value, y.status(0, 5), status);
            }
        }
        LeafAsks narrow = Check.of("n1 1 7 7 7;n1 2 0 0 0;n1 3 99 99 99;");
        EDGES.dueOrders(narrow, "1.1.0=6;", -1003);
        EDGES.dueOrders(narrow, "1.1.0=8;", -1003);
        EDGES.dueOrders(narrow, "1.1.0=7;1.2.0=0;1.3.0=99;", 3);
        EDGES.dueOrders(narrow, "1.2.0=1;", -1003);
        EDGES.dueOrders(narrow, "1.3.0=98;", -1003);
    }

    /** What order value of column 0 answers, by STATUS; then the STATUS that it leaves. */
    private static void notAsThingsAre() {
        EDGES.sentence(5, "column 0: 1, 2 where the ROW is not there or UNREADY, 4, 5 where it is there");
        int[] values = {1, 2, 4, 5, 6};
        int[][] answers = {{-1004, -1004, -1005, 1, 1}, {1, 1, -1004, -1004, 1}, {1, 1, -1004, -1004, 1},
            {-1004, -1004, -1004, -1004, 1}};
        int[][] then = {{AWAY, AWAY, AWAY, UNREADY, AWAY}, {AT_WORK, RESTING, AT_WORK, AT_WORK, AWAY},
            {AT_WORK, RESTING, RESTING, RESTING, AWAY}, {UNREADY, UNREADY, UNREADY, UNREADY, AWAY}};
        for (int status = AWAY; status <= UNREADY; status++) {
            for (int i = 0; i < values.length; i++) {
                LeafAsks x = withStatus(status);
                EDGES.dueOrders(x, "1.1.0.5=" + values[i] + ";", answers[status][i]);
                EDGES.due("status " + status + " behind " + values[i], x.status(0, 5), then[status][i]);
            }
        }
        EDGES.refusedOrders("4.1.0.1=1;", -1004);
        EDGES.refusedOrders("4.1.0.5=2;", -1004);
        EDGES.refusedOrders("4.1.0.9=4;", -1004);
        EDGES.refusedOrders("4.1.0.5=5;", -1004);
        EDGES.sentence(5, "another column where the ROW is not there");
        EDGES.refusedOrders("4.1.1.1=0;", -1004);
        for (int status = AWAY; status <= UNREADY; status++) {
            EDGES.dueOrders(withStatus(status), "1.1.1.5=0;", status == AWAY ? -1004 : 1);
            EDGES.dueOrders(withStatus(status), "1.1.2.5=99;", status == AWAY ? -1004 : 1);
            EDGES.dueOrders(withStatus(status), "1.1.1.4=0;", -1004);
            EDGES.dueOrders(withStatus(status), "1.1.1.6=0;", -1004);
        }
    }

    private static void statuses() {
        EDGES.sentence(5, "4: the ROW is there, AT WORK, no other column has a value; 5: likewise, but UNREADY");
        for (int status = AT_WORK; status <= UNREADY; status++) {
            LeafAsks x = withStatus(status);
            EDGES.dueOrders(x, "1.1.0.5=6;1.1.0.5=4;1.1.0.5=2;", 3);
            EDGES.due("leaf 1.1.0.5", x.leaf(1, 1, 0, 5), 0);
            EDGES.due("leaf 1.1.1.5", x.leaf(1, 1, 1, 5), LeafAsks.NONE);
            EDGES.due("leaf 1.1.2.5", x.leaf(1, 1, 2, 5), LeafAsks.NONE);
            LeafAsks y = withStatus(status);
            EDGES.dueOrders(y, "1.1.0.5=6;1.1.0.5=5;", 2);
            EDGES.due("told(0, 4)", y.told(0, 4), UNREADY);
            EDGES.due("leaves", y.count(2), 3);
            EDGES.due("needs", y.needs(0, 5), 3);
        }
        LeafAsks x = small();
        EDGES.dueOrders(x, "1.1.0.1=4;1.1.1.1=0;1.1.2.1=99;", 3);
        EDGES.due("a value 0 is a value", x.told(x.leaf(1, 1, 1, 1), 4), 0);
        EDGES.due("a value 99", x.told(x.leaf(1, 1, 2, 1), 4), 99);
        EDGES.due("the status is the value of column 0", x.told(0, 4), AT_WORK);
    }

    private static void takenAway() {
        EDGES.sentence(5, "6: the ROW is not there any more (as well, where it was not)");
        for (int status = AWAY; status <= UNREADY; status++) {
            LeafAsks x = withStatus(status);
            Check.orders(x, "1.1.0.4=5;1.1.0.6=5;");
            EDGES.dueOrders(x, "1.1.0.5=6;1.1.0.5=6;", 2);
            EDGES.due("status", x.status(0, 5), AWAY);
            EDGES.due("leaves", x.count(2), 4);
            EDGES.due("the row ahead of it", x.status(0, 4), UNREADY);
            EDGES.due("the row behind it", x.status(0, 6), UNREADY);
            EDGES.due("what may be undone", x.count(8), 3);
        }
        EDGES.due("orders that change nothing can be undone too", withStatus(AWAY).count(8), 1);
    }

    private static void filling() {
        EDGES.sentence(5, "if the ROW was UNREADY and each column has a value then, it is RESTING");
        for (int columns = 1; columns <= 3; columns++) {
            LeafAsks x = Check.of("t1 1 " + columns + ";");
            Check.orders(x, "1.1.0.1=5;");
            for (int column = 1; column <= columns; column++) {
                EDGES.due("UNREADY ahead of column " + column + " of " + columns, x.status(0, 1), UNREADY);
                EDGES.dueOrders(x, "1.1." + column + ".1=0;", 1);
                boolean last = column == columns;
                EDGES.due("behind column " + column, x.status(0, 1), last ? RESTING : UNREADY);
            }
        }
        LeafAsks twice = withStatus(UNREADY);
        EDGES.dueOrders(twice, "1.1.1.5=1;1.1.1.5=2;", 2);
        EDGES.due("one column twice fills no other", twice.status(0, 5), UNREADY);
        LeafAsks backwards = small();
        EDGES.dueOrders(backwards, "1.1.0.5=5;1.1.2.5=1;1.1.1.5=1;1.1.0.5=1;", 4);
        EDGES.due("filled in one go, then put to work", backwards.status(0, 5), AT_WORK);
        EDGES.dueOrders(small(), "1.1.0.5=5;1.1.2.5=1;1.1.0.5=1;", -1024);
        LeafAsks works = withStatus(AT_WORK);
        EDGES.dueOrders(works, "1.1.1.5=1;1.1.2.5=1;", 2);
        EDGES.due("AT WORK stays", works.status(0, 5), AT_WORK);
        LeafAsks rests = withStatus(RESTING);
        EDGES.dueOrders(rests, "1.1.1.5=1;1.1.2.5=1;", 2);
        EDGES.due("RESTING stays", rests.status(0, 5), RESTING);
    }

    private static void leftUnfilled() {
        EDGES.sentence(5, "is there, AT WORK, and has a column without a value, that one can't be done, REASON 5");
        for (int columns = 1; columns <= 3; columns++) {
            String text = "1.1.0.1=4;";
            for (int column = 1; column <= columns; column++) {
                EDGES.dueOrders(Check.of("t1 1 " + columns + ";"), text, -1005);
                text += "1.1." + column + ".1=0;";
            }
            EDGES.dueOrders(Check.of("t1 1 " + columns + ";"), text, columns + 1);
        }
        EDGES.refusedOrders("4.1.0.1=4;4.1.1.1=1;", -1005);
        EDGES.refusedOrders("4.1.0.1=4;4.1.2.1=1;", -1005);
        for (int row = 1; row <= 9; row++) {
            LeafAsks x = Check.of("t1 1 1;t1 2 3;");
            String wide = "1.2.0.#=4;1.2.1.#=0;1.2.2.#=0;".replace("#", "" + row);
            EDGES.dueOrders(x, "1.1.0." + row + "=4;", -1005);
            EDGES.dueOrders(x, wide, -1005);
            EDGES.dueOrders(x, "1.1.0." + row + "=4;1.1.1." + row + "=0;", 2);
            EDGES.dueOrders(x, wide + "1.2.3." + row + "=0;", 4);
        }
        EDGES.dueOrders(small(), "1.1.0.1=4;1.1.0.1=2;", 2);
        EDGES.dueOrders(small(), "1.1.0.1=4;1.1.0.1=6;", 2);
        EDGES.dueOrders(small(), "1.1.0.1=4;1.1.0.1=2;1.1.0.1=1;", -1005);
        EDGES.dueOrders(small(), "2.1.0=9;1.1.0.1=4;1.1.1.2=1;", -1024);
        EDGES.sentence(5, "a ROW that one of them (4) made");
        LeafAsks x = small();
        EDGES.dueOrders(x, "1.1.0.1=4;1.1.0.1=2;", 2);
        EDGES.dueOrders(x, "1.1.0.1=1;", 1);
        EDGES.due("AT WORK, made by earlier orders", x.status(0, 1), AT_WORK);
        EDGES.dueOrders(x, "1.1.0.2=4;1.1.1.2=1;1.1.2.2=1;", 3);
        EDGES.sentence(5, "(the last one that made it, 5 not being behind that)");
        EDGES.dueOrders(small(), "1.1.0.1=4;1.1.0.1=6;1.1.0.1=4;", -1025);
        EDGES.dueOrders(small(), "1.1.0.1=5;1.1.0.1=6;1.1.0.1=4;", -1025);
        EDGES.dueOrders(small(), "1.1.0.1=4;1.1.0.1=6;1.1.0.1=5;", 3);
        EDGES.dueOrders(small(), "1.1.0.1=4;1.1.0.1=6;1.1.0.1=5;1.1.1.1=1;1.1.2.1=1;1.1.0.1=1;", 6);
        EDGES.sentence(5, "of several such ITEMS the first");
        EDGES.refusedOrders("4.1.0.1=4;2.1.0.9=4;", -1005);
        EDGES.refusedOrders("2.1.0.9=4;4.1.0.1=4;", -1005);
        EDGES.refusedOrders("4.1.0.2=4;4.1.0.1=4;4.1.1.2=0;4.1.2.2=0;", -1015);
        EDGES.refusedOrders("4.1.0.1=4;2.1.0.9=4;4.1.1.1=0;4.1.2.1=0;", -1015);
        EDGES.dueOrders(small(), "1.1.0.3=4;1.1.0.1=4;1.1.0.3=6;1.1.0.2=4;", -1015);
    }

    private static void oneBehindAnother() {
        EDGES.sentence(5, "ORDERS are done one behind another, each by what those ahead of it left");
        EDGES.dueOrders(small(), "1.1.1.1=1;1.1.0.1=5;", -1004);
        EDGES.dueOrders(small(), "1.1.0.1=5;1.1.1.1=1;", 2);
        EDGES.dueOrders(small(), "1.1.0.1=5;1.1.0.1=6;1.1.1.1=1;", -1024);
        EDGES.dueOrders(small(), "1.1.0.1=5;1.1.0.1=5;", -1014);
        LeafAsks x = small();
        EDGES.dueOrders(x, "2.1.0=10;2.1.0=20;2.1.0=30;", 3);
        EDGES.due("the last one stays", x.told(1, 4), 30);
    }

    private static void allOrNone() {
        EDGES.sentence(5, "If one of them can't be done, none is");
        EDGES.refusedOrders("3.1.0=12;2.1.0.3=2;4.1.0.5=6;4.1.0.8=4;4.1.1.8=1;4.1.2.8=1;3.1.0=31;", -1063);
        EDGES.refusedOrders("2.1.0.3=6;2.1.0.1=1;4.1.0.9=2;4.1.0.1=4;", -1035);
        LeafAsks x = small();
        EDGES.dueOrders(x, "2.1.0=10;2.1.0=31;", -1013);
        EDGES.due("the text goes on", x.type('2'), 19);
        Check.type(x, ".1.0=10;");
        EDGES.due("and is refused at the same place", x.orders(), -1013);
        EDGES.due("the single", x.told(1, 4), 9);
    }

    private static void emptyThen() {
        EDGES.sentence(5, "they are done, and it is empty then: how many.");
        LeafAsks x = small();
        Check.type(x, "2.1.0=10;2.1.0=11;");
        EDGES.due("orders()", x.orders(), 2);
        EDGES.due("count(7)", x.count(7), 0);
        EDGES.due("orders() once more", x.orders(), -10);
        EDGES.due("count(8)", x.count(8), 1);
        EDGES.due("the next letter is the first one", x.type('2'), 1);
    }

    private static void whichNotices() {
        EDGES.sentence(5, "that was not AT WORK ahead of all and is now: a NOTICE of it, kind 0; that was and is not: kind 1");
        String[] to = {"1.1.0.5=6;", "1.1.0.5=6;1.1.0.5=4;1.1.1.5=1;1.1.2.5=1;",
            "1.1.0.5=6;1.1.0.5=4;1.1.1.5=1;1.1.2.5=1;1.1.0.5=2;", "1.1.0.5=6;1.1.0.5=5;"};
        for (int was = AWAY; was <= UNREADY; was++) {
            for (int is = AWAY; is <= UNREADY; is++) {
                LeafAsks x = withStatus(was);
                int ahead = x.count(4);
                EDGES.due("notices at " + was, ahead, was == AT_WORK ? 1 : 0);
                Check.orders(x, to[is]);
                EDGES.due("from " + was + " to " + is, x.status(0, 5), is);
                boolean one = was == AT_WORK ^ is == AT_WORK;
                EDGES.due("notices from " + was + " to " + is, x.count(4), one ? ahead + 1 : ahead);
                EDGES.due("kind from " + was + " to " + is, x.notice(ahead, 0),
                    !one ? LeafAsks.BAD : is == AT_WORK ? 0 : 1);
            }
        }
        LeafAsks x = withStatus(RESTING);
        EDGES.dueOrders(x, "1.1.0.5=1;1.1.0.5=2;", 2);
        EDGES.due("to work and back: none", x.count(4), 0);
        EDGES.dueOrders(x, "1.1.0.5=1;1.1.0.5=2;1.1.0.5=1;", 3);
        EDGES.due("to work, back and to work: one", x.count(4), 1);
        EDGES.dueOrders(x, "2.1.0=10;", 1);
        EDGES.due("none of a single", x.count(4), 1);
        LeafAsks singles = Check.of("n1 1 0 9 0;n2 1 0 9 0;n3 1 0 9 0;n4 1 0 9 0;n5 1 0 9 0;n6 1 0 9 0;n7 1 0 9 0;");
        for (String value : new String[] {"1", "2"}) {
            EDGES.dueOrders(singles, "1.1.0=#;2.1.0=#;3.1.0=#;4.1.0=#;5.1.0=#;6.1.0=#;7.1.0=#;".replace("#", value), 7);
            EDGES.due("none of seven singles that get " + value, singles.count(4), 0);
        }
        EDGES.sentence(5, "A NOTICE is SENT once as it is made");
        EDGES.due("notice(0, 3)", x.notice(0, 3), 1);
        EDGES.due("notice(0, 4)", x.notice(0, 4), 3);
    }

    private static void orderOfNotices() {
        EDGES.sentence(5, "for each ROW, by its TABLE's NAME, then its number");
        LeafAsks x = Check.of("t5 1 1;t1 9 1;");
        EDGES.dueOrders(x, "5.1.0.9=4;5.1.1.9=1;5.1.0.1=4;5.1.1.1=1;1.9.0.9=4;1.9.1.9=1;1.9.0.1=4;1.9.1.1=1;", 8);
        int[][] due = {{0, 0, 1}, {0, 0, 9}, {0, 1, 1}, {0, 1, 9}};
        EDGES.due("notices", x.count(4), 4);
        for (int i = 0; i < due.length; i++) {
            for (int what = 0; what < 3; what++) {
                EDGES.due("notice(" + i + ", " + what + ")", x.notice(i, what), due[i][what]);
            }
        }
        EDGES.dueOrders(x, "5.1.0.9=6;5.1.0.5=4;5.1.1.5=1;1.9.0.9=2;", 4);
        int[][] then = {{1, 0, 9}, {0, 1, 5}, {1, 1, 9}};
        EDGES.due("notices then", x.count(4), 7);
        for (int i = 0; i < then.length; i++) {
            for (int what = 0; what < 3; what++) {
                EDGES.due("then notice(" + (4 + i) + ", " + what + ")", x.notice(4 + i, what), then[i][what]);
            }
        }
    }

    /** Four rows at work, by four notices. */
    private static LeafAsks four() {
        LeafAsks x = Check.of("t1 1 1;");
        Check.orders(x, "1.1.0.1=4;1.1.1.1=0;1.1.0.2=4;1.1.1.2=0;1.1.0.3=4;1.1.1.3=0;1.1.0.4=4;1.1.1.4=0;");
        return x;
    }

    private static void howManyNotices() {
        EDGES.sentence(5, "and waits (8 at most; the oldest one is DROPPED if there is one more)");
        LeafAsks x = four();
        EDGES.dueOrders(x, "1.1.0.1=2;1.1.0.2=2;1.1.0.3=2;", 3);
        EDGES.due("seven wait", x.count(4), 7);
        EDGES.due("none dropped of seven", x.count(5), 0);
        EDGES.dueOrders(x, "1.1.0.4=2;", 1);
        EDGES.due("eight wait", x.count(4), 8);
        EDGES.due("none dropped of eight", x.count(5), 0);
        EDGES.due("the oldest of eight", x.notice(0, 2), 1);
        EDGES.dueOrders(x, "1.1.0.4=1;", 1);
        EDGES.due("eight wait of nine", x.count(4), 8);
        EDGES.due("one dropped of nine", x.count(5), 1);
        EDGES.due("the oldest of nine", x.notice(0, 2), 2);
        EDGES.due("the newest of nine", x.notice(7, 2), 4);
        EDGES.due("its kind", x.notice(7, 0), 0);
        EDGES.due("dropped is not given up", x.count(6), 0);
        EDGES.dueOrders(x, "1.1.0.1=1;1.1.0.2=1;1.1.0.3=1;1.1.0.4=2;", 4);
        EDGES.due("five dropped of thirteen", x.count(5), 5);
        EDGES.due("the oldest of thirteen", x.notice(0, 2), 2);
        EDGES.due("the oldest one's kind", x.notice(0, 0), 1);
        x.answers(0);
        EDGES.dueOrders(x, "1.1.0.4=1;", 1);
        EDGES.due("none dropped where one was answered", x.count(5), 5);
        EDGES.due("eight wait at last", x.count(4), 8);
        LeafAsks all = four();
        Check.orders(all, "1.1.0.5=4;1.1.1.5=0;1.1.0.6=4;1.1.1.6=0;1.1.0.7=4;1.1.1.7=0;1.1.0.8=4;1.1.1.8=0;");
        String leave = "1.1.0.1=2;1.1.0.2=2;1.1.0.3=2;1.1.0.4=2;1.1.0.5=2;1.1.0.6=2;1.1.0.7=2;1.1.0.8=2;";
        EDGES.dueOrders(all, leave, 8);
        EDGES.due("eight dropped at once", all.count(5), 8);
        EDGES.due("eight wait instead", all.count(4), 8);
        for (int i = 0; i < 8; i++) {
            EDGES.due("kind of notice " + i, all.notice(i, 0), 1);
            EDGES.due("row of notice " + i, all.notice(i, 2), i + 1);
        }
    }
}
