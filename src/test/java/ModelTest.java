import java.util.ArrayList;
import java.util.List;
import java.util.Random;

/**
 * Random runs of calls, of fixed seeds, on LeafAsks and on Model: each answer is the same. They are longer than
 * the 512 calls that the document promises, since LeafAsks makes no use of that end.
 */
public final class ModelTest {
    private static final int RUNS = 2000, CALLS = 2000;
    private static final int[] ODD = {-1, 10, 100, 256, 1000, Integer.MAX_VALUE, Integer.MIN_VALUE, -2};

    private final Check check = new Check();
    private final int run;
    private final Random random;
    private final LeafAsks x = new LeafAsks();
    private final Model model = new Model();
    private final List<int[]> told = new ArrayList<>();
    private int calls = 0;
    private boolean wrong = false;

    private ModelTest(int run) {
        this.run = run;
        this.random = new Random(run);
    }

    public static void main(String[] args) {
        for (int run = 0; run < RUNS; run++) {
            ModelTest test = new ModelTest(run);
            test.go();
            if (test.wrong) {
                test.check.end("ModelTest, run " + run);
            }
        }
        System.out.println("ModelTest: " + RUNS + " runs of " + CALLS + " calls");
    }

    private void due(String call, int got, int want) {
        calls++;
        if (got != want) {
            wrong = true;
            check.due("run " + run + ": " + call, got, want);
        }
    }

    private void go() {
        say(branchText());
        due("branches()", x.branches(), model.branches());
        while (calls < CALLS && !wrong) {
            int which = random.nextInt(20);
            if (which < 8) {
                order();
            } else if (which == 8 && random.nextInt(6) == 0) {
                tellAnew();
            } else {
                callOne(which);
            }
            ask();
        }
        askAll();
    }

    private int pick(int least, int most) {
        return random.nextInt(25) == 0 ? ODD[random.nextInt(ODD.length)] : least + random.nextInt(most - least + 1);
    }

    private void say(String text) {
        for (char letter : text.toCharArray()) {
            due("type(" + (int) letter + ")", x.type(letter), model.type(letter));
        }
    }

    private String blanks() {
        return random.nextInt(15) == 0 ? " " : "";
    }

    private String spoilt(String text, String signs, int seldom) {
        if (random.nextInt(seldom) != 0 || text.isEmpty()) {
            return text;
        }
        int at = random.nextInt(text.length());
        String sign = "" + signs.charAt(random.nextInt(signs.length()));
        switch (random.nextInt(4)) {
            case 0: return text.substring(0, at) + text.substring(at + 1);
            case 1: return text.substring(0, at) + sign + text.substring(at);
            case 2: return text.substring(0, at);
            default: return text.substring(0, at) + sign + text.substring(at + 1);
        }
    }

    private String branchText() {
        told.clear();
        StringBuilder text = new StringBuilder();
        int items = random.nextInt(6) == 0 ? random.nextInt(10) : 2 + random.nextInt(6);
        int tables = 0;
        for (int i = 0; i < items; i++) {
            int[] name = freshName();
            int letter = i == 0 ? 2 : random.nextInt(3);
            if (letter == 2 && ++tables > 2 && random.nextInt(30) != 0) {
                letter = 1;
            }
            int low = random.nextInt(random.nextInt(30) == 0 ? 100 : 20), high = 20 + random.nextInt(80);
            int value = random.nextInt(40) == 0 ? random.nextInt(101) : Math.min(high, low + random.nextInt(9));
            int size = random.nextInt(60) == 0 ? 4 : 1 + random.nextInt(3);
            text.append(blanks()).append("nct".charAt(letter)).append(blanks()).append(name[0]).append(' ').append(name[1]);
            text.append(' ').append(letter == 0 ? low + " " + high + " " + value : "" + size);
            text.append(blanks()).append(";");
            told.add(new int[] {letter, name[0], name[1], size, low});
        }
        return spoilt(text.toString(), "nct;0123456789 .=x#", 10);
    }

    /** A branch's name; seldom one that is another one's. */
    private int[] freshName() {
        int[] name = new int[2];
        boolean fresh = false;
        while (!fresh) {
            name[0] = 1 + random.nextInt(random.nextInt(4) == 0 ? 9 : 2);
            name[1] = 1 + random.nextInt(9);
            fresh = random.nextInt(60) == 0 || told.stream().noneMatch(b -> b[1] == name[0] && b[2] == name[1]);
        }
        return name;
    }

    private String orderText() {
        StringBuilder text = new StringBuilder();
        int items = random.nextInt(30) == 0 ? random.nextInt(11) : 1 + random.nextInt(5);
        for (int i = 0; i < items; i++) {
            int[] b = told.isEmpty() ? new int[] {2, 1, 1, 3, 0} : told.get(random.nextInt(told.size()));
            if (b[0] == 2) {
                i += rowOrders(text, b, 1 + random.nextInt(random.nextInt(3) == 0 ? 9 : 4), items - i);
            } else if (b[0] == 0 || random.nextInt(10) == 0) {
                text.append(b[1]).append(blanks()).append('.').append(b[2]).append(".0=");
                text.append(Math.min(99, b[4] + random.nextInt(20))).append(';');
            }
        }
        return spoilt(text.toString(), ".=;0123456789 nx#", 15);
    }

    /** Orders for a row, most of them such as can be done: how many more than one. */
    private int rowOrders(StringBuilder text, int[] b, int row, int most) {
        int at = model.leaf(b[1], b[2], 0, row);
        int status = at < 0 ? 0 : model.told(at, 4);
        int[][] sensible = {{4, 4, 5, 6}, {2, 2, 6, 9}, {1, 1, 1, 6, 9}, {9, 9, 9, 6}};
        int[] values = random.nextInt(12) == 0 ? new int[] {1, 2, 3, 4, 5, 6, 9} : sensible[status];
        int value = values[random.nextInt(values.length)];
        String table = b[1] + "." + blanks() + b[2] + ".";
        if (value == 9) {
            text.append(table).append(1 + random.nextInt(b[3])).append('.').append(row).append('=');
            text.append(random.nextInt(random.nextInt(2) == 0 ? 4 : 100)).append(";");
            return 0;
        }
        text.append(table).append("0.").append(row).append(blanks()).append('=').append(value).append(';');
        int more = 0;
        for (int column = 1; value == 4 && column <= b[3] && random.nextInt(12) != 0; column++) {
            text.append(table).append(column).append('.').append(row).append("=").append(random.nextInt(20)).append(';');
            more++;
        }
        return random.nextInt(9) == 0 ? Math.min(more, most) : more;
    }

    private void order() {
        if (random.nextInt(20) != 0) {
            due("clear()", x.clear(), model.clear());
        }
        say(orderText());
        due("orders()", x.orders(), model.orders());
    }

    private void tellAnew() {
        due("clear()", x.clear(), model.clear());
        say(branchText());
        due("branches()", x.branches(), model.branches());
    }

    private void callOne(int which) {
        int n = pick(0, 99);
        switch (which) {
            case 9: case 10: case 11:
                int few = pick(1, random.nextInt(4) == 0 ? 99 : 3);
                due("ticks(" + few + ")", x.ticks(few), model.ticks(few));
                break;
            case 12:
                int i = pick(0, random.nextInt(8));
                due("answers(" + i + ")", x.answers(i), model.answers(i));
                break;
            case 13: case 14:
                due("undo()", x.undo(), model.undo());
                break;
            case 15:
                int image = pick(0, 1);
                due("keep(" + image + ")", x.keep(image), model.keep(image));
                break;
            case 16:
                int other = pick(0, 1);
                due("back(" + other + ")", x.back(other), model.back(other));
                break;
            case 17:
                due("type(" + n + ")", x.type(n), model.type(n));
                break;
            case 18:
                if (random.nextInt(9) == 0) {
                    due("branches()", x.branches(), model.branches());
                }
                break;
            default:
                due("having(" + n + ", 0)", x.having(n, 0), model.having(n, 0));
                break;
        }
    }

    /** Some asks with numbers that may be wrong. */
    private void ask() {
        int a = pick(1, 3), b = pick(-1, 9), c = b == -1 ? pick(-1, -1) : pick(-1, 3), d = c == -1 ? pick(-1, -1) : pick(-1, 9);
        String name = a + ", " + b + ", " + c + ", " + d;
        int many = pick(0, 9), room = pick(0, 60), k = pick(0, 20), what = pick(0, 8);
        due("leaf(" + name + ")", x.leaf(a, b, c, d), model.leaf(a, b, c, d));
        due("next(" + name + ")", x.next(a, b, c, d), model.next(a, b, c, d));
        due("bulk(" + name + ", " + many + ", " + room + ")", x.bulk(a, b, c, d, many, room), model.bulk(a, b, c, d, many, room));
        due("walk(" + room + ")", x.walk(room), model.walk(room));
        due("told(" + k + ", " + what + ")", x.told(k, what), model.told(k, what));
        due("count(" + what + ")", x.count(what), model.count(what));
        int value = pick(0, 9), t = pick(0, 1), row = pick(1, 9), i = pick(0, 4);
        k = pick(-1, 3);
        due("having(" + value + ", " + k + ")", x.having(value, k), model.having(value, k));
        due("status(" + t + ", " + row + ")", x.status(t, row), model.status(t, row));
        due("needs(" + t + ", " + row + ")", x.needs(t, row), model.needs(t, row));
        due("notice(" + i + ", " + what + ")", x.notice(i, what), model.notice(i, what));
    }

    /** All that can be asked. */
    private void askAll() {
        for (int what = -1; what <= 9; what++) {
            due("count(" + what + ")", x.count(what), model.count(what));
            for (int i = -1; i <= 80; i++) {
                due("told(" + i + ", " + what + ")", x.told(i, what), model.told(i, what));
                due("notice(" + i + ", " + what + ")", x.notice(i, what), model.notice(i, what));
            }
        }
        for (int t = -1; t <= 2; t++) {
            for (int row = -1; row <= 10; row++) {
                due("status(" + t + ", " + row + ")", x.status(t, row), model.status(t, row));
                due("needs(" + t + ", " + row + ")", x.needs(t, row), model.needs(t, row));
            }
        }
        for (int room = -1; room <= 70; room++) {
            due("walk(" + room + ")", x.walk(room), model.walk(room));
        }
        for (int value = -1; value <= 101; value++) {
            for (int k = -2; k < 4; k++) {
                due("having(" + value + ", " + k + ")", x.having(value, k), model.having(value, k));
            }
        }
    }
}
