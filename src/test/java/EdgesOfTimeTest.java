/** The boundary cases of promises 6 to 8, sentence by sentence: ticks, answers, undo. */
public final class EdgesOfTimeTest {
    private static final Edges EDGES = new Edges();
    private static final int[] FAR = {Integer.MIN_VALUE, -1000, 1000, Integer.MAX_VALUE};

    public static void main(String[] args) {
        howManyTicks();
        mostTime();
        turnOfCounters();
        sentAgain();
        noticesOfOneTick();
        whichAnswer();
        howOftenSent();
        answeredWaitsNoMore();
        noneToUndo();
        sixAreKnown();
        whatIsUndone();
        notKnownToUndo();
        EDGES.end("EdgesOfTimeTest");
    }

    private static void howManyTicks() {
        EDGES.sentence(6, "n (1 .. 99) TICKS: TIME.");
        EDGES.refused("ticks(0)", x -> x.ticks(0), LeafAsks.BAD);
        EDGES.refused("ticks(-1)", x -> x.ticks(-1), LeafAsks.BAD);
        EDGES.refused("ticks(100)", x -> x.ticks(100), LeafAsks.BAD);
        for (int n : FAR) {
            EDGES.refused("ticks(" + n + ")", x -> x.ticks(n), LeafAsks.BAD);
        }
        LeafAsks x = Check.of("c1 1 1;");
        int time = 0;
        for (int n : new int[] {1, 2, 98, 99}) {
            time += n;
            EDGES.due("ticks(" + n + ")", x.ticks(n), time);
            EDGES.due("count(3)", x.count(3), time);
            EDGES.due("the counter", x.told(0, 4), time);
        }
    }

    /** An object of which TIME is from 0 to 999. */
    private static LeafAsks at(int time, String branches) {
        LeafAsks x = Check.of(branches);
        passTime(x, time);
        return x;
    }

    private static void passTime(LeafAsks x, int time) {
        for (int left = time; left > 0; left -= 99) {
            x.ticks(Math.min(left, 99));
        }
    }

    private static void late(LeafAsks x, int time) {
        Edges.rich(x);
        passTime(x, time - x.count(3));
        Check.type(x, ";");
        x.orders();
    }

    private static void mostTime() {
        EDGES.sentence(6, "STATE: it would be above 999.");
        EDGES.due("from 899 to 998", at(899, "").ticks(99), 998);
        EDGES.due("from 900 to 999", at(900, "").ticks(99), 999);
        EDGES.refused("from 901 to 1000", x -> late(x, 901), x -> x.ticks(99), LeafAsks.STATE);
        EDGES.due("from 998 to 999", at(998, "").ticks(1), 999);
        EDGES.refused("from 998 to 1000", x -> late(x, 998), x -> x.ticks(2), LeafAsks.STATE);
        EDGES.refused("from 999 to 1000", x -> late(x, 999), x -> x.ticks(1), LeafAsks.STATE);
        EDGES.refused("from 999 to 1098", x -> late(x, 999), x -> x.ticks(99), LeafAsks.STATE);
        LeafAsks x = at(999, "c1 1 1;");
        EDGES.due("the counter at 999", x.told(0, 4), 999);
        EDGES.due("undo() at 999", x.undo(), 5);
        EDGES.due("time behind it", x.count(3), 990);
        EDGES.due("up to 999 once more", x.ticks(9), 999);
        EDGES.sentence(6, "the first of these that is so: BAD");
        for (int n : new int[] {0, 100, -1, Integer.MAX_VALUE, Integer.MIN_VALUE}) {
            EDGES.refused("ticks(" + n + ") at 999", y -> late(y, 999), y -> y.ticks(n), LeafAsks.BAD);
        }
    }

    private static void turnOfCounters() {
        EDGES.sentence(6, "each COUNTER's value is STEP more, left over by 1000");
        int[][] due = {{1, 999, 999}, {2, 499, 998}, {2, 500, 0}, {2, 501, 2}, {3, 333, 999}, {3, 334, 2}, {9, 111, 999},
            {9, 112, 8}, {9, 222, 998}, {9, 223, 7}, {9, 999, 991}, {5, 199, 995}, {5, 200, 0}, {8, 125, 0}, {7, 143, 1}};
        for (int[] d : due) {
            LeafAsks x = at(d[1], "c1 1 " + d[0] + ";");
            EDGES.due("STEP " + d[0] + " at " + d[1], x.told(0, 4), d[2]);
        }
        LeafAsks x = Check.of("c9 9 9;n5 5 7 8 7;c1 1 1;");
        x.ticks(2);
        EDGES.due("one counter of two", x.told(0, 4), 2);
        EDGES.due("a single has no step", x.told(1, 4), 7);
        EDGES.due("the other counter", x.told(2, 4), 18);
    }

    /** Rows 1 and 2 of table 1.1 rest, filled; no notices. */
    private static LeafAsks resting() {
        LeafAsks x = Check.of("t1 1 1;");
        Check.orders(x, "1.1.0.1=5;1.1.1.1=0;1.1.0.2=5;1.1.1.2=0;");
        return x;
    }

    private static LeafAsks noticed() {
        LeafAsks x = resting();
        Check.orders(x, "1.1.0.1=1;");
        return x;
    }

    private static void sentAgain() {
        EDGES.sentence(6, "3 TICKS behind each time it was SENT: if it was SENT 3 times, it is GIVEN UP (it waits no more), "
            + "else it is SENT again");
        int[] sent = {1, 1, 1, 2, 2, 2, 3, 3, 3};
        int[] left = {3, 2, 1, 3, 2, 1, 3, 2, 1};
        LeafAsks oneByOne = noticed();
        for (int ticks = 0; ticks < 9; ticks++) {
            LeafAsks atOnce = noticed();
            if (ticks > 0) {
                atOnce.ticks(ticks);
                oneByOne.ticks(1);
            }
            EDGES.due("sent behind " + ticks, atOnce.notice(0, 3), sent[ticks]);
            EDGES.due("left behind " + ticks, atOnce.notice(0, 4), left[ticks]);
            EDGES.due("given up behind " + ticks, atOnce.count(6), 0);
            EDGES.due("sent, one by one, behind " + ticks, oneByOne.notice(0, 3), sent[ticks]);
            EDGES.due("left, one by one, behind " + ticks, oneByOne.notice(0, 4), left[ticks]);
            EDGES.due("waits behind " + ticks, oneByOne.count(4), 1);
        }
        EDGES.due("the ninth tick", oneByOne.ticks(1), 9);
        EDGES.due("waits no more", oneByOne.count(4), 0);
        EDGES.due("given up", oneByOne.count(6), 1);
        EDGES.due("not dropped", oneByOne.count(5), 0);
        for (int ticks : new int[] {9, 10, 99}) {
            LeafAsks x = noticed();
            x.ticks(ticks);
            EDGES.due("waits no more behind " + ticks, x.count(4), 0);
            EDGES.due("given up behind " + ticks, x.count(6), 1);
        }
        LeafAsks late = resting();
        late.ticks(50);
        Check.orders(late, "1.1.0.1=1;");
        late.ticks(8);
        EDGES.due("one made later, behind eight", late.count(4), 1);
        late.ticks(1);
        EDGES.due("one made later, behind nine", late.count(4), 0);
    }

    private static void noticesOfOneTick() {
        EDGES.sentence(6, "then NOTICES as told, the oldest first");
        LeafAsks x = noticed();
        Check.orders(x, "1.1.0.2=1;");
        x.ticks(1);
        Check.orders(x, "1.1.0.1=2;");
        x.ticks(7);
        EDGES.due("three wait behind eight", x.count(4), 3);
        EDGES.due("left of the first", x.notice(0, 4), 1);
        EDGES.due("left of the third", x.notice(2, 4), 2);
        x.ticks(1);
        EDGES.due("two given up at once", x.count(6), 2);
        EDGES.due("one waits", x.count(4), 1);
        EDGES.due("its kind", x.notice(0, 0), 1);
        EDGES.due("how often it was sent", x.notice(0, 3), 3);
        EDGES.due("left of it", x.notice(0, 4), 1);
        x.ticks(1);
        EDGES.due("none waits", x.count(4), 0);
        EDGES.due("three given up", x.count(6), 3);
        LeafAsks eight = eight();
        eight.ticks(8);
        EDGES.due("eight wait behind eight", eight.count(4), 8);
        eight.ticks(1);
        EDGES.due("eight given up at once", eight.count(6), 8);
        EDGES.due("none of eight waits", eight.count(4), 0);
    }

    /** Eight notices, of rows 1 to 8. */
    private static LeafAsks eight() {
        LeafAsks x = Check.of("t1 1 1;");
        Check.orders(x, "1.1.0.1=4;1.1.1.1=0;1.1.0.2=4;1.1.1.2=0;1.1.0.3=4;1.1.1.3=0;1.1.0.4=4;1.1.1.4=0;");
        Check.orders(x, "1.1.0.5=4;1.1.1.5=0;1.1.0.6=4;1.1.1.6=0;1.1.0.7=4;1.1.1.7=0;1.1.0.8=4;1.1.1.8=0;");
        return x;
    }

    private static void whichAnswer() {
        EDGES.sentence(7, "The i-th NOTICE that waits (0 the oldest) is ANSWERED");
        EDGES.refused("answers(-1) of seven", x -> x.answers(-1), LeafAsks.BAD);
        EDGES.refused("answers(7) of seven", x -> x.answers(7), LeafAsks.BAD);
        EDGES.refused("answers(8) of seven", x -> x.answers(8), LeafAsks.BAD);
        for (int i : FAR) {
            EDGES.refused("answers(" + i + ")", x -> x.answers(i), LeafAsks.BAD);
        }
        EDGES.refused("answers(0) of none", x -> Check.branches(x, "t1 1 1;"), x -> x.answers(0), LeafAsks.BAD);
        EDGES.due("answers(8) of eight", eight().answers(8), LeafAsks.BAD);
        for (int i = 0; i < 8; i++) {
            LeafAsks x = eight();
            EDGES.due("answers(" + i + ") of eight", x.answers(i), 1);
            EDGES.due("seven wait", x.count(4), 7);
            for (int j = 0; j < 7; j++) {
                EDGES.due("row of notice " + j + " without " + i, x.notice(j, 2), j < i ? j + 1 : j + 2);
                EDGES.due("left of notice " + j + " without " + i, x.notice(j, 4), 3);
            }
            EDGES.due("answers(7) of seven", x.answers(7), LeafAsks.BAD);
        }
        LeafAsks last = noticed();
        EDGES.due("answers(1) of one", last.answers(1), LeafAsks.BAD);
        EDGES.due("answers(0) of one", last.answers(0), 1);
        EDGES.due("answers(0) of none", last.answers(0), LeafAsks.BAD);
    }

    private static void howOftenSent() {
        EDGES.sentence(7, "is ANSWERED: how often it was SENT.");
        int[] sent = {1, 1, 1, 2, 2, 2, 3, 3, 3, LeafAsks.BAD};
        for (int ticks = 0; ticks <= 9; ticks++) {
            LeafAsks x = noticed();
            if (ticks > 0) {
                x.ticks(ticks);
            }
            EDGES.due("answers(0) behind " + ticks, x.answers(0), sent[ticks]);
        }
    }

    private static void answeredWaitsNoMore() {
        EDGES.sentence(7, "ANSWERED: it waits no more.");
        LeafAsks x = noticed();
        x.answers(0);
        EDGES.due("none waits", x.count(4), 0);
        x.ticks(20);
        EDGES.due("none given up", x.count(6), 0);
        EDGES.due("none dropped", x.count(5), 0);
        EDGES.due("the row works on", x.status(0, 1), 1);
    }

    private static void noneToUndo() {
        EDGES.sentence(8, "STATE: none.");
        EDGES.refused("undo() of a new object", x -> { }, LeafAsks::undo, LeafAsks.STATE);
        EDGES.refused("undo() behind branches()", x -> Check.branches(x, "c1 1 1;"), LeafAsks::undo, LeafAsks.STATE);
        EDGES.refused("undo() behind six of them", x -> undo(x, 6), LeafAsks::undo, LeafAsks.STATE);
        EDGES.refused("undo() behind back(1)", EdgesOfTimeTest::richBack, LeafAsks::undo, LeafAsks.STATE);
    }

    private static void undo(LeafAsks x, int times) {
        Edges.rich(x);
        for (int i = 0; i < times; i++) {
            x.undo();
        }
    }

    private static void richBack(LeafAsks x) {
        Edges.rich(x);
        x.back(1);
    }

    private static void sixAreKnown() {
        EDGES.sentence(8, "(6 are known, older ones are lost)");
        for (int many = 0; many <= 14; many++) {
            LeafAsks x = Check.of("c1 1 1;");
            for (int i = 0; i < many; i++) {
                x.ticks(1);
            }
            int known = Math.min(many, 6);
            EDGES.due("count(8) behind " + many, x.count(8), known);
            for (int i = 1; i <= known; i++) {
                EDGES.due("undo " + i + " behind " + many, x.undo(), known - i);
                EDGES.due("time behind it", x.count(3), many - i);
                EDGES.due("the counter behind it", x.told(0, 4), many - i);
                EDGES.due("count(8) behind it", x.count(8), known - i);
            }
            EDGES.due("no more behind " + many, x.undo(), LeafAsks.STATE);
            EDGES.due("time stays", x.count(3), many - known);
        }
        LeafAsks x = Check.of("c1 1 1;");
        for (int i = 0; i < 7; i++) {
            x.ticks(1);
        }
        x.undo();
        x.undo();
        x.ticks(9);
        EDGES.due("two undone, one more: five are known", x.count(8), 5);
        EDGES.due("undo() of it", x.undo(), 4);
        EDGES.due("time behind it", x.count(3), 5);
    }

    private static void whatIsUndone() {
        EDGES.sentence(8, "all LEAVES, NOTICES, TIME, how many were DROPPED, GIVEN UP are as ahead of it");
        LeafAsks x = new LeafAsks();
        Edges.rich(x);
        x.clear();
        var ahead = Edges.world(x);
        x.ticks(9);
        EDGES.due("GIVEN UP are more", x.count(6) > 3);
        EDGES.due("undo() of ticks", x.undo(), 5);
        EDGES.due("all as ahead of ticks", Edges.world(x).equals(ahead));
        LeafAsks y = new LeafAsks();
        Edges.rich(y);
        y.clear();
        y.answers(0);
        EDGES.due("undo() of answers", y.undo(), 5);
        EDGES.due("all as ahead of answers", Edges.world(y).equals(ahead));
        LeafAsks z = new LeafAsks();
        Edges.rich(z);
        z.clear();
        Check.type(z, "2.1.0.1=1;4.1.0.9=6;2.1.0.3=2;3.1.0=5;");
        z.orders();
        EDGES.due("DROPPED are more", z.count(5), 3);
        EDGES.due("undo() of orders", z.undo(), 5);
        EDGES.due("all as ahead of orders", Edges.world(z).equals(ahead));
        EDGES.due("the text that was done does not come back", z.count(7), 0);
    }

    private static void notKnownToUndo() {
        EDGES.sentence(8, "the latest orders(), ticks(), answers() that was not refused "
            + "(orders that could not be done are as refused)");
        LeafAsks x = Check.of("t1 1 1;n1 2 0 9 5;");
        Check.orders(x, "1.1.0.1=4;1.1.1.1=0;");
        EDGES.due("one known", x.count(8), 1);
        x.ticks(0);
        x.answers(1);
        Check.orders(x, "1.2.0=10;");
        Check.orders(x, "1.2.0=");
        Check.branches(x, "n");
        x.clear();
        x.keep(0);
        x.type('a');
        EDGES.due("one known still", x.count(8), 1);
        x.ticks(1);
        x.answers(0);
        EDGES.due("three known", x.count(8), 3);
        EDGES.due("undo() of answers", x.undo(), 2);
        EDGES.due("notices", x.count(4), 1);
        EDGES.due("undo() of ticks", x.undo(), 1);
        EDGES.due("time", x.count(3), 0);
        EDGES.due("undo() of orders", x.undo(), 0);
        EDGES.due("leaves", x.count(2), 1);
        EDGES.due("an undo is not undone", x.undo(), LeafAsks.STATE);
        EDGES.due("the text stays", x.count(7), 1);
    }
}
