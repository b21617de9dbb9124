import java.io.IOException;
import java.nio.file.Files;
import java.nio.file.Path;
import java.util.ArrayList;
import java.util.List;
import java.util.function.Consumer;
import java.util.function.ToIntFunction;

/**
 * What the tests of boundary cases share: each answer is told with its promise and the document's words for the
 * case, and a refused call is seen to change nothing, neither what can be asked nor what comes to light later.
 * No object gets more than the 512 calls for which the document promises answers, if the tests keep to scenes
 * that leave some 200 of them.
 */
final class Edges {
    private static final Path DOCUMENT = Path.of("../shared/DOC.md");

    /** What may follow a refused call: each brings to light another part of what is kept inside. */
    private static final List<ToIntFunction<LeafAsks>> AFTERWARDS = List.of(
        x -> 0, x -> undo(x, 1), x -> undo(x, 2), x -> undo(x, 3), x -> undo(x, 4), x -> undo(x, 5), x -> undo(x, 6),
        x -> x.back(0), x -> x.back(1), x -> x.orders(), x -> x.branches(),
        x -> 1000 * x.type(';') + x.orders(), x -> 1000 * x.type(';') + x.branches());

    private final Check check = new Check();
    private final String document = document();
    private String sentence = "";

    /** The case that the answers behind this belong to: the words stand in the document as they are. */
    void sentence(int promise, String words) {
        sentence = "Promise " + promise + ", \"" + words + "\": ";
        check.due(sentence + "words of the document", document.isEmpty() || document.contains(words));
    }

    void due(String what, int got, int want) {
        check.due(sentence + what, got, want);
    }

    void due(String what, boolean holds) {
        check.due(sentence + what, holds);
    }

    void dueBranches(String text, int want) {
        due("branches of '" + text + "'", Check.branches(new LeafAsks(), text), want);
    }

    /** Branches that can't be told, to an object that has much to lose. */
    void refusedBranches(String text, int want) {
        refused("branches of '" + text + "'", x -> typedOver(x, text), LeafAsks::branches, want);
    }

    void dueOrders(LeafAsks x, String text, int want) {
        due("orders '" + text + "'", Check.orders(x, text), want);
        due("letters left of '" + text + "'", x.count(7), want > 0 ? 0 : text.length());
    }

    /** Orders that can't be told or done, to an object that has much to lose. */
    void refusedOrders(String text, int want) {
        refused("orders '" + text + "'", x -> typedOver(x, text), LeafAsks::orders, want);
    }

    /** A call that the rich object answers without a change. */
    void asked(String what, ToIntFunction<LeafAsks> call, int want) {
        refused(what, Edges::rich, call, want);
    }

    /** A call that is refused by the rich object. */
    void refused(String what, ToIntFunction<LeafAsks> call, int want) {
        refused(what, Edges::rich, call, want);
    }

    /** A call that is refused by an object so made: it stays as one so made that was not called. */
    void refused(String what, Consumer<LeafAsks> scene, ToIntFunction<LeafAsks> call, int want) {
        for (int i = 0; i < AFTERWARDS.size(); i++) {
            LeafAsks called = new LeafAsks();
            scene.accept(called);
            int got = call.applyAsInt(called);
            LeafAsks left = new LeafAsks();
            scene.accept(left);
            if (i == 0) {
                due(what, got, want);
            }
            ToIntFunction<LeafAsks> later = AFTERWARDS.get(i);
            due(what + " leaves what follows, " + i, later.applyAsInt(called), later.applyAsInt(left));
            due(what + " changes nothing, " + i, seen(called).equals(seen(left)));
        }
    }

    void end(String name) {
        check.end(name);
    }

    /**
     * An object that has much to lose: rows of each STATUS, seven NOTICES that wait, one that was DROPPED, three
     * GIVEN UP, six that may be UNDONE, two IMAGES, a text that a ; would end.
     */
    static void rich(LeafAsks x) {
        Check.type(x, "t4 1 2;n3 1 5 30 9;c1 2 7;t2 1 1;");
        x.branches();
        Check.type(x, "2.1.0.1=4;2.1.1.1=1;2.1.0.2=4;2.1.1.2=2;2.1.0.3=4;2.1.1.3=3;");
        x.orders();
        x.ticks(9);
        Check.type(x, "2.1.0.1=2;2.1.0.2=2;2.1.0.3=2;");
        x.orders();
        x.keep(0);
        x.ticks(2);
        Check.type(x, "2.1.0.1=1;2.1.0.2=1;2.1.0.3=1;");
        x.orders();
        Check.type(x, "4.1.0.9=4;4.1.1.9=0;4.1.2.9=99;4.1.0.5=5;4.1.1.5=10;");
        x.orders();
        x.keep(1);
        Check.type(x, "2.1.0.1=2;2.1.0.2=6;");
        x.orders();
        x.answers(3);
        Check.type(x, "3.1.0=30;");
        x.orders();
        Check.type(x, "3.1.0=12");
    }

    static void typedOver(LeafAsks x, String text) {
        rich(x);
        x.clear();
        Check.type(x, text);
    }

    /** What undo and images bring back, as far as it can be asked. */
    static List<Integer> world(LeafAsks x) {
        List<Integer> found = new ArrayList<>();
        for (int what = 2; what <= 6; what++) {
            found.add(x.count(what));
        }
        int leaves = x.count(2);
        for (int k = 0; k < leaves; k++) {
            for (int what = 0; what < 6; what++) {
                found.add(x.told(k, what));
            }
        }
        int notices = x.count(4);
        for (int i = 0; i < notices; i++) {
            for (int what = 0; what < 5; what++) {
                found.add(x.notice(i, what));
            }
        }
        return found;
    }

    private static List<Integer> seen(LeafAsks x) {
        List<Integer> found = world(x);
        for (int what : new int[] {0, 1, 7, 8}) {
            found.add(x.count(what));
        }
        return found;
    }

    private static int undo(LeafAsks x, int times) {
        int answer = 0;
        for (int i = 0; i < times; i++) {
            answer = x.undo();
        }
        return answer;
    }

    /** Empty where it can't be read: then the tests go without that look. */
    private static String document() {
        try {
            return Files.readString(DOCUMENT);
        } catch (IOException e) {
            return "";
        }
    }
}
