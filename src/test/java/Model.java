import java.util.ArrayList;
import java.util.List;
import java.util.TreeMap;

/**
 * A second LeafAsks, written from the document with other means: names are texts of figures (whose order is
 * the names' order), leaves a sorted map, and a fault is looked for as the first token that no text goes on from.
 */
final class Model {
    private static final int BAD = -1, STATE = -2, FULL = -3, NONE = -9;

    private record Token(char sign, int number, int place) {
        boolean in(int least, int most) {
            return sign == '#' && number >= least && number <= most;
        }
    }

    private record Branch(char letter, String name, int x, int y, int value) { }

    private record Notice(int kind, int table, int row, int made) { }

    private static final class World {
        TreeMap<String, Integer> leaves = new TreeMap<>();
        List<Notice> notices = new ArrayList<>();
        int time, dropped, givenUp;

        World copy() {
            World w = new World();
            w.leaves.putAll(leaves);
            w.notices.addAll(notices);
            w.time = time;
            w.dropped = dropped;
            w.givenUp = givenUp;
            return w;
        }
    }

    private String text = "";
    private TreeMap<String, Branch> tree = new TreeMap<>();
    private World now = new World();
    private final List<World> past = new ArrayList<>();
    private final World[] images = new World[2];

    int type(int letter) {
        if (letter < 0 || letter > 255) return BAD;
        if (text.length() == 160) return FULL;
        text += (char) letter;
        return text.length();
    }

    int clear() {
        int had = text.length();
        text = "";
        return had;
    }

    private List<Token> tokens() {
        List<Token> found = new ArrayList<>();
        int i = 0;
        while (i < text.length()) {
            int j = i;
            while (j < text.length() && "0123456789".indexOf(text.charAt(j)) >= 0) j++;
            if (j > i) {
                String figures = text.substring(i, j);
                boolean wrong = figures.length() > 2 || figures.length() == 2 && figures.startsWith("0");
                found.add(new Token('#', wrong ? 1000 : Integer.parseInt(figures), i));
                i = j;
            } else {
                char sign = text.charAt(i);
                if (sign != ' ') found.add(new Token(sign == '#' ? '?' : sign, 0, i));
                i++;
            }
        }
        return found;
    }

    /** The fault's place, or -1; items gets the tokens of each item that was ended. */
    private int fault(boolean orders, List<List<Token>> items) {
        List<Token> item = new ArrayList<>();
        for (Token token : tokens()) {
            boolean fits = orders ? orderGoesOn(items.size(), item, token) : branchGoesOn(items, item, token);
            if (!fits) return token.place();
            item.add(token);
            if (token.sign() == ';') {
                items.add(item);
                item = new ArrayList<>();
            }
        }
        return !item.isEmpty() || orders && items.isEmpty() ? text.length() : -1;
    }

    private static boolean branchGoesOn(List<List<Token>> items, List<Token> item, Token t) {
        int at = item.size();
        if (at == 0) {
            long tables = items.stream().filter(i -> i.get(0).sign() == 't').count();
            return items.size() < 8 && "nct".indexOf(t.sign()) >= 0 && (t.sign() != 't' || tables < 2);
        }
        if (at == 1) return t.in(1, 9);
        if (at == 2) {
            int a = item.get(1).number();
            return t.in(1, 9) && items.stream().noneMatch(i -> i.get(1).number() == a && i.get(2).number() == t.number());
        }
        char letter = item.get(0).sign();
        if (letter == 'c') return at == 3 ? t.in(1, 9) : t.sign() == ';';
        if (letter == 't') return at == 3 ? t.in(1, 3) : t.sign() == ';';
        if (at == 3) return t.in(0, 99);
        if (at == 4) return t.in(item.get(3).number(), 99);
        if (at == 5) return t.in(item.get(3).number(), item.get(4).number());
        return t.sign() == ';';
    }

    private static boolean orderGoesOn(int ended, List<Token> item, Token t) {
        int at = item.size();
        if (at == 0) return ended < 8 && t.in(0, 9);
        int equal = -1;
        for (int i = 0; i < at; i++) if (item.get(i).sign() == '=') equal = i;
        if (equal >= 0) return at == equal + 1 ? t.in(0, 99) : t.sign() == ';';
        if (at % 2 == 0) return t.in(0, 9);
        return t.sign() == '=' || t.sign() == '.' && at < 7;
    }

    int branches() {
        List<List<Token>> items = new ArrayList<>();
        int fault = fault(false, items);
        if (fault >= 0) return -10 - fault;
        text = "";
        tree = new TreeMap<>();
        now = new World();
        past.clear();
        images[0] = null;
        images[1] = null;
        for (List<Token> i : items) {
            char letter = i.get(0).sign();
            String name = "" + i.get(1).number() + i.get(2).number();
            int x = i.get(3).number();
            Branch b = letter == 'n' ? new Branch(letter, name, x, i.get(4).number(), i.get(5).number())
                : new Branch(letter, name, x, 0, 0);
            tree.put(name, b);
            if (letter != 't') now.leaves.put(name + "0", b.value());
        }
        return items.size();
    }

    int orders() {
        List<List<Token>> items = new ArrayList<>();
        int fault = fault(true, items);
        if (fault >= 0) return -10 - fault;
        World then = now.copy();
        TreeMap<String, Integer> makers = new TreeMap<>();
        for (int place = 0; place < items.size(); place++) {
            String name = "";
            List<Token> item = items.get(place);
            for (Token t : item.subList(0, item.size() - 2)) if (t.sign() == '#') name += t.number();
            int value = item.get(item.size() - 2).number();
            int reason = reason(then, name, value);
            if (reason != 0) return -1000 - 10 * place - reason;
            carryOut(then, name, value, place, makers);
        }
        int culprit = 99;
        for (String row : makers.keySet()) {
            if (then.leaves.getOrDefault(row, 0) == 1 && missing(then, row) > 0) {
                culprit = Math.min(culprit, makers.get(row));
            }
        }
        if (culprit != 99) return -1005 - 10 * culprit;
        for (int t = 0; t < tables().size(); t++) {
            for (int row = 1; row <= 9; row++) {
                boolean was = status(now, t, row) == 1, is = status(then, t, row) == 1;
                if (was != is) then.notices.add(new Notice(is ? 0 : 1, t, row, then.time));
            }
        }
        while (then.notices.size() > 8) {
            then.notices.remove(0);
            then.dropped++;
        }
        remember();
        now = then;
        text = "";
        return items.size();
    }

    private int reason(World w, String name, int value) {
        Branch b = name.length() < 3 ? null : tree.get(name.substring(0, 2));
        if (b == null) return 1;
        String rest = name.substring(2);
        if (b.letter() != 't') {
            if (!rest.equals("0")) return 1;
            if (b.letter() == 'c') return 2;
            return value < b.x() || value > b.y() ? 3 : 0;
        }
        if (rest.length() != 2 || rest.charAt(0) - '0' > b.x() || rest.charAt(1) == '0') return 1;
        int status = w.leaves.getOrDefault(b.name() + "0" + rest.charAt(1), 0);
        if (rest.charAt(0) != '0') return status == 0 ? 4 : 0;
        if (!List.of(1, 2, 4, 5, 6).contains(value)) return 3;
        if (value <= 2) return status == 0 || status == 3 ? 4 : 0;
        return value != 6 && status != 0 ? 4 : 0;
    }

    private void carryOut(World w, String name, int value, int place, TreeMap<String, Integer> makers) {
        Branch b = tree.get(name.substring(0, 2));
        if (b.letter() == 'n') {
            w.leaves.put(name, value);
            return;
        }
        String row = b.name() + "0" + name.charAt(3);
        if (name.charAt(2) != '0') {
            w.leaves.put(name, value);
            if (w.leaves.get(row) == 3 && missing(w, row) == 0) w.leaves.put(row, 2);
            return;
        }
        if (value <= 2) w.leaves.put(row, value);
        if (value >= 4) {
            for (int c = 0; c <= 3; c++) w.leaves.remove(b.name() + c + name.charAt(3));
            makers.remove(row);
        }
        if (value == 4) {
            w.leaves.put(row, 1);
            makers.put(row, place);
        }
        if (value == 5) w.leaves.put(row, 3);
    }

    private int missing(World w, String row) {
        int missing = 0;
        for (int c = 1; c <= tree.get(row.substring(0, 2)).x(); c++) {
            if (!w.leaves.containsKey(row.substring(0, 2) + c + row.charAt(3))) missing++;
        }
        return missing;
    }

    private void remember() {
        past.add(now.copy());
        if (past.size() > 6) past.remove(0);
    }

    int ticks(int n) {
        if (n < 1 || n > 99) return BAD;
        if (now.time + n > 999) return STATE;
        remember();
        for (Branch b : tree.values()) {
            if (b.letter() == 'c') now.leaves.merge(b.name() + "0", b.x() * n, (v, more) -> (v + more) % 1000);
        }
        now.time += n;
        int had = now.notices.size();
        now.notices.removeIf(i -> now.time - i.made() >= 9);
        now.givenUp += had - now.notices.size();
        return now.time;
    }

    int answers(int i) {
        if (i < 0 || i >= now.notices.size()) return BAD;
        int sent = notice(i, 3);
        remember();
        now.notices.remove(i);
        return sent;
    }

    int undo() {
        if (past.isEmpty()) return STATE;
        now = past.remove(past.size() - 1);
        return past.size();
    }

    private static String name(int... numbers) {
        String name = "";
        boolean ended = false;
        for (int n : numbers) {
            if (n < -1 || n > 9 || ended && n != -1) return null;
            ended = n == -1;
            if (!ended) name += n;
        }
        return name.isEmpty() ? null : name;
    }

    private List<String> names() {
        return new ArrayList<>(now.leaves.keySet());
    }

    int leaf(int a, int b, int c, int d) {
        String name = name(a, b, c, d);
        if (name == null) return BAD;
        return now.leaves.containsKey(name) ? names().indexOf(name) : NONE;
    }

    int told(int k, int what) {
        if (k < 0 || k >= now.leaves.size() || what < 0 || what > 5) return -5;
        String name = names().get(k);
        if (what < 4) return what < name.length() ? name.charAt(what) - '0' : -1;
        if (what == 4) return now.leaves.get(name);
        char letter = tree.get(name.substring(0, 2)).letter();
        return letter == 'n' ? 0 : letter == 'c' ? 1 : name.charAt(2) == '0' ? 2 : 3;
    }

    int next(int a, int b, int c, int d) {
        String name = name(a, b, c, d);
        if (name == null) return BAD;
        String found = now.leaves.higherKey(name);
        return found == null ? NONE : names().indexOf(found);
    }

    int bulk(int a, int b, int c, int d, int many, int room) {
        String name = name(a, b, c, d);
        if (name == null || many < 0 || many > 99 || room < 0 || room > 999) return BAD;
        return bulk(name, many, room);
    }

    private int bulk(String name, int many, int room) {
        int got = 0;
        for (var leaf : now.leaves.tailMap(name, false).entrySet()) {
            room -= (leaf.getKey() + leaf.getValue()).length();
            if (room < 0 || got == many) break;
            got++;
        }
        return got;
    }

    int walk(int room) {
        if (room < 0 || room > 999) return BAD;
        int asks = 0;
        String behind = "";
        while (!now.leaves.tailMap(behind, false).isEmpty()) {
            int got = bulk(behind, 99, room);
            if (got == 0) return NONE;
            behind = new ArrayList<>(now.leaves.tailMap(behind, false).keySet()).get(got - 1);
            asks++;
        }
        return asks;
    }

    int having(int value, int k) {
        if (k < -1) return BAD;
        List<Integer> found = new ArrayList<>();
        List<Integer> values = new ArrayList<>(now.leaves.values());
        for (int i = 0; i < values.size(); i++) if (values.get(i) == value) found.add(i);
        return k == -1 ? found.size() : k < found.size() ? found.get(k) : NONE;
    }

    private List<Branch> tables() {
        return tree.values().stream().filter(b -> b.letter() == 't').toList();
    }

    private int status(World w, int t, int row) {
        return w.leaves.getOrDefault(tables().get(t).name() + "0" + row, 0);
    }

    int status(int t, int row) {
        return t < 0 || t >= tables().size() || row < 1 || row > 9 ? BAD : status(now, t, row);
    }

    int needs(int t, int row) {
        int status = status(t, row);
        if (status == BAD) return BAD;
        if (status == 1) return 0;
        return status == 2 ? 1 : 1 + missing(now, tables().get(t).name() + "0" + row);
    }

    int notice(int i, int what) {
        if (i < 0 || i >= now.notices.size() || what < 0 || what > 4) return BAD;
        Notice n = now.notices.get(i);
        int age = now.time - n.made();
        return new int[] {n.kind(), n.table(), n.row(), 1 + age / 3, 3 - age % 3}[what];
    }

    int keep(int image) {
        if (image < 0 || image > 1) return BAD;
        images[image] = now.copy();
        return now.time;
    }

    int back(int image) {
        if (image < 0 || image > 1) return BAD;
        if (images[image] == null) return STATE;
        now = images[image].copy();
        past.clear();
        return now.time;
    }

    int count(int what) {
        if (what < 0 || what > 8) return BAD;
        return new int[] {tree.size(), tables().size(), now.leaves.size(), now.time, now.notices.size(),
            now.dropped, now.givenUp, text.length(), past.size()}[what];
    }
}
