import java.util.ArrayList;
import java.util.List;
import java.util.function.Consumer;
import java.util.function.Function;

/**
 * A state, as the calls that lead to it from a new object. They are made again for each look at it, so
 * that a look changes nothing, and no object is asked for more than its 512 calls.
 */
final class State {
    private static final int MOST_CALLS = 512;
    private static final int CALLS_OF_A_LOOK = 100;
    private static final int MOST_ENTRIES = 40;
    private static final int MORE_THAN_A_LAYER = 5000;

    private final List<Consumer<TreeChanges>> calls;

    private State(List<Consumer<TreeChanges>> calls) {
        this.calls = calls;
    }

    static State fresh() {
        return new State(List.of());
    }

    /** Both trees by words: a path with = is a file with the bytes behind it, others are directories. */
    static State of(String tree0, String tree1) {
        return fresh().grown(0, tree0).grown(1, tree1);
    }

    State grown(int tree, String words) {
        State grown = this;
        for (String word : words.isEmpty() ? new String[0] : words.split(" ")) {
            int is = word.indexOf('=');
            grown = is < 0 ? grown.at(word).does(x -> x.directory(tree))
                    : grown.at(word.substring(0, is)).filled(tree, word.substring(is + 1));
        }
        return grown;
    }

    private State filled(int tree, String bytes) {
        State filled = does(x -> x.file(tree, Trials.word(bytes, 0)));
        for (int n = 1; 4 * n < bytes.length(); n++) {
            int more = Trials.word(bytes, n);
            filled = filled.does(x -> x.add(tree, more));
        }
        return filled;
    }

    /** A call more, whatever it answers. */
    State then(Consumer<TreeChanges> call) {
        List<Consumer<TreeChanges>> more = new ArrayList<>(calls);
        more.add(call);
        return new State(more);
    }

    /** A call more, which must not throw. */
    State does(Consumer<TreeChanges> call) {
        Trials.due("a call that is right", outcome(call), Trials.DONE);
        return then(call);
    }

    State at(String signs) {
        return then(x -> Trials.path(x, signs));
    }

    State moved(int tree, String from, String to) {
        return at(from).does(x ->
                x.move(tree, Trials.word(to, 0), Trials.word(to, 1), Trials.word(to, 2)));
    }

    State emptied(int tree) {
        State emptied = this;
        for (int n = 0; n < MOST_ENTRIES && emptied.made().entries(tree) > 0; n++) {
            emptied = emptied.at(Trials.pathOf(emptied.made(), tree, 0)).does(x -> x.remove(tree));
        }
        return emptied;
    }

    void answers(Object want, Function<TreeChanges, Object> call) {
        TreeChanges x = made();
        Trials.due("a call", Trials.answer(() -> call.apply(x)), want);
    }

    void throwing(String thrown, Consumer<TreeChanges> call) {
        Trials.due("a call that is wrong", outcome(call), thrown);
    }

    /** The call throws this, and leaves all that can be seen of the state as it was. */
    void refuses(String thrown, Consumer<TreeChanges> call) {
        throwing(thrown, call);
        Trials.due("the state after a refused call", then(call).all(), all());
    }

    void has(int tree, String list) {
        Trials.due("tree " + tree, list(tree), list);
    }

    void hasLayer(String bytes) {
        Trials.due("the layer", layer(), bytes);
    }

    /** The changes from tree 0 to tree 1. */
    void hasChanges(String bytes) {
        does(x -> x.changes(0)).hasLayer(bytes);
    }

    private TreeChanges made() {
        TreeChanges x = new TreeChanges();
        for (Consumer<TreeChanges> call : calls) {
            Trials.outcome(() -> call.accept(x));
        }
        if (calls.size() + CALLS_OF_A_LOOK > MOST_CALLS) {
            Trials.due("calls that a state takes", calls.size(), "less");
        }
        return x;
    }

    private String outcome(Consumer<TreeChanges> call) {
        TreeChanges x = made();
        return Trials.outcome(() -> call.accept(x));
    }

    private String list(int tree) {
        StringBuilder all = new StringBuilder();
        int entries = made().entries(tree);
        for (int i = 0; i < entries; i++) {
            all.append(i == 0 ? "" : " ").append(Trials.entryOf(made(), tree, i));
        }
        return all.toString();
    }

    private String layer() {
        StringBuilder all = new StringBuilder();
        String next = "";
        for (int k = 0; k < MORE_THAN_A_LAYER && !next.equals(Trials.IOOBE); k += CALLS_OF_A_LOOK) {
            TreeChanges x = made();
            for (int n = k; n < k + CALLS_OF_A_LOOK && !next.equals(Trials.IOOBE); n++) {
                int at = n;
                next = Trials.answer(() -> Trials.byteAsText(x.layer(at)));
                all.append(next.equals(Trials.IOOBE) ? "" : next);
            }
        }
        return all.toString();
    }

    /** THE PATH can be seen only by what calls make of it. */
    private String all() {
        StringBuilder all = new StringBuilder(trees()).append(" layer ").append(layer());
        for (int tree = 0; tree < 2; tree++) {
            int t = tree;
            all.append(seenBy(x -> x.directory(t))).append(seenBy(x -> x.file(t, 'p')));
            all.append(seenBy(x -> x.add(t, 'q'))).append(seenBy(x -> x.remove(t)));
            all.append(" changes ").append(then(x -> x.changes(t)).layer());
        }
        return all.toString();
    }

    private String trees() {
        return list(0) + " | " + list(1);
    }

    private String seenBy(Consumer<TreeChanges> call) {
        return " then " + outcome(call) + " " + then(call).trees();
    }
}
