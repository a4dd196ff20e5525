import java.util.ArrayList;
import java.util.List;

/**
 * The document's first line, on every pair of small trees: the changes from one to the other, applied to the
 * one, make the other. On smaller ones also what they make of every third tree.
 */
public final class EveryPairTest extends Trials {
    /**
     * What can be at a path: nothing, a file with one of these bytes, or a directory with what can be at
     * these names in it, down to a depth. A path with = is a file with the bytes behind it, others are
     * directories.
     */
    private static List<String> everyTree(String path, int depth, String bytes, String... names) {
        List<String> all = new ArrayList<>();
        all.add("");
        for (char value : bytes.toCharArray()) {
            all.add(path + "=" + value);
        }
        List<String> directories = List.of(path);
        for (String name : depth > 1 ? names : new String[0]) {
            directories = joined(directories, everyTree(path + "/" + name, depth - 1, bytes, names));
        }
        all.addAll(directories);
        return all;
    }

    private static List<String> joined(List<String> first, List<String> then) {
        List<String> all = new ArrayList<>();
        for (String one : first) {
            for (String other : then) {
                all.add((one + " " + other).trim());
            }
        }
        return all;
    }

    private static void grow(Twin twin, int tree, String words) {
        for (String word : words.isEmpty() ? new String[0] : words.split(" ")) {
            int is = word.indexOf('=');
            twin.at(is < 0 ? word : word.substring(0, is));
            due("growing " + word, is < 0 ? twin.call("directory", tree)
                    : twin.call("file", tree, word(word.substring(is + 1), 0)), DONE);
        }
    }

    /** A new object with the layer of the changes from tree 0 to tree 1, each byte of which was looked at. */
    private static Twin changed(String older, String newer) {
        Twin twin = new Twin("from '" + older + "' to '" + newer + "'");
        grow(twin, 0, older);
        grow(twin, 1, newer);
        int length = Integer.parseInt(twin.call("changes", 0));
        for (int k = 0; k <= length; k++) {
            twin.call("layer", k);
        }
        return twin;
    }

    private static void everyPair(List<String> trees) {
        for (String older : trees) {
            for (String newer : trees) {
                Twin twin = changed(older, newer);
                due("from '" + older + "' apply", twin.call("apply", 0), DONE);
                due("to '" + newer + "' same", twin.call("same"), 1);
                due("then changes", twin.call("changes", 0), 0);
            }
        }
    }

    private static void everyThird(List<String> trees) {
        int applied = 0;
        for (String older : trees) {
            for (String newer : trees) {
                for (String third : trees) {
                    applied += applies(older, newer, third) ? 1 : 0;
                }
            }
        }
        int triples = trees.size() * trees.size() * trees.size();
        due("some can be applied, some can't", applied > triples / 8 && applied < triples * 7 / 8, true);
    }

    private static boolean applies(String older, String newer, String third) {
        Twin twin = changed(older, newer);
        for (String word : List.of("a", "a0")) {
            twin.at(word);
            twin.call("remove", 0);
        }
        grow(twin, 0, third);
        boolean applied = twin.call("apply", 0).equals(DONE);
        int entries = Integer.parseInt(twin.call("entries", 0));
        for (int i = 0; i < entries; i++) {
            for (int what : new int[] {0, 1, 2, 3, 4, 5, 6, 16, 17}) {
                twin.call("entry", 0, i, what);
            }
        }
        return applied;
    }

    public static void main(String[] args) {
        everyPair(everyTree("a", 3, "1", "b", "c"));
        everyPair(joined(everyTree("a", 2, "12", "b", "c", "d"), everyTree("a0", 1, "1")));
        everyThird(joined(everyTree("a", 2, "1", "b", "c"), List.of("", "a0=1")));
        finish();
    }
}
