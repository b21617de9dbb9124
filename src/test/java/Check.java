/** What the tests share: calls compared with what is due, and texts typed whole. */
final class Check {
    private int wrong = 0;
    private int calls = 0;

    void due(String call, int got, int want) {
        calls++;
        if (got != want) {
            wrong++;
            System.out.println(call + " answered " + got + ", due is " + want);
        }
    }

    void due(String what, boolean holds) {
        due(what, holds ? 1 : 0, 1);
    }

    /** Types a text behind what the text holds. */
    static void type(LeafAsks x, String text) {
        for (int i = 0; i < text.length(); i++) {
            x.type(text.charAt(i));
        }
    }

    static int branches(LeafAsks x, String text) {
        x.clear();
        type(x, text);
        return x.branches();
    }

    static int orders(LeafAsks x, String text) {
        x.clear();
        type(x, text);
        return x.orders();
    }

    static LeafAsks of(String branches) {
        LeafAsks x = new LeafAsks();
        branches(x, branches);
        return x;
    }

    void dueBranches(String text, int want) {
        due("branches of '" + text + "'", branches(new LeafAsks(), text), want);
    }

    void dueOrders(LeafAsks x, String text, int want) {
        due("orders '" + text + "'", orders(x, text), want);
    }

    void end(String name) {
        System.out.println(name + ": " + calls + " answers, " + wrong + " wrong");
        if (wrong != 0) {
            System.exit(1);
        }
    }
}
