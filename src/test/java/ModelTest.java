import java.util.ArrayList;
import java.util.Arrays;
import java.util.TreeMap;

/** Many runs of calls, each answer beside that of a plain model written from the document's words. */
public final class ModelTest extends Trials {
    private static final int RUNS = 6000;
    private static final int CALLS = 512;
    private static final String[] CALLS_TOLD = {"path", "directory", "file", "add", "remove", "move", "copy",
        "changes", "layer", "apply", "same", "entries", "entry"};

    /** Numbers from a seed alone, so that every run of the test is the same. */
    private static final class Numbers {
        private long state;

        Numbers(long seed) {
            state = seed * 0x9E3779B97F4A7C15L + 1;
        }

        int below(int bound) {
            state = state * 6364136223846793005L + 1442695040888963407L;
            return (int) ((state >>> 33) % bound);
        }

        boolean once(int in) {
            return below(in) == 0;
        }
    }

    /** What a run's names are like, how many calls fill its trees first, and how often each call comes. */
    private static final class Manner {
        private final int letters;
        private final int nameLength;
        private final int fill;
        private final int[] weights;

        Manner(int letters, int nameLength, int fill, int... weights) {
            this.letters = letters;
            this.nameLength = nameLength;
            this.fill = fill;
            this.weights = weights;
        }
    }

    // path, directory, file, add, remove, move, copy, changes, layer, apply, same, entries, entry
    private static final Manner[] MANNERS = {
        new Manner(2, 1, 40, 12, 8, 6, 4, 2, 3, 1, 4, 4, 3, 1, 1, 8),
        new Manner(3, 1, 100, 12, 6, 10, 2, 1, 2, 1, 3, 3, 3, 1, 1, 6),
        new Manner(6, 2, 240, 12, 6, 10, 1, 1, 1, 0, 2, 2, 4, 1, 1, 4),
        new Manner(2, 4, 60, 12, 12, 6, 4, 1, 12, 1, 3, 4, 3, 1, 1, 8),
        new Manner(36, 2, 250, 12, 8, 8, 1, 1, 1, 0, 2, 2, 4, 1, 1, 4),
        new Manner(2, 1, 0, 10, 10, 6, 8, 2, 4, 0, 5, 6, 5, 2, 1, 8),
        new Manner(2, 1, 20, 8, 2, 2, 30, 1, 1, 1, 5, 10, 5, 2, 1, 20),
    };

    private static String randomPath(Numbers numbers, Manner manner, Model model) {
        TreeMap<String, String> tree = model.trees.get(numbers.below(2));
        String start = "";
        if (!tree.isEmpty() && numbers.below(3) > 0) {
            start = new ArrayList<>(tree.keySet()).get(numbers.below(tree.size()));
            if (numbers.once(3)) {
                return start;
            }
            start = start + "/";
        }
        StringBuilder path = new StringBuilder(start).append(randomName(numbers, manner, 2));
        if (numbers.once(40)) {
            path.insert(numbers.below(path.length() + 1), (char) numbers.below(256));
        }
        return path.toString();
    }

    private static String randomName(Numbers numbers, Manner manner, int shortOnceIn) {
        StringBuilder name = new StringBuilder();
        int length = numbers.once(shortOnceIn) ? 1 : manner.nameLength;
        for (int k = 0; k < length; k++) {
            name.append("ab0z19cdefghijklmnopqrstuvwxy2345678".charAt(numbers.below(manner.letters)));
        }
        return name.toString();
    }

    /** Often another name in the same directory, which makes paths longer and shorter. */
    private static String movePath(Numbers numbers, Manner manner, Model model) {
        if (model.path() == null || numbers.once(2)) {
            return randomPath(numbers, manner, model);
        }
        String shorter = Model.shorter(model.path());
        return (shorter == null ? "" : shorter + "/") + randomName(numbers, manner, 8);
    }

    private static int[] pathWords(Numbers numbers, String path) {
        int[] words = new int[3];
        int k = 0;
        for (int place = 0; place < 12 && k < path.length(); place++) {
            boolean spare = path.length() - k < 12 - place;
            if (!(spare && numbers.once(12))) {
                words[place / 4] |= path.charAt(k) << 8 * (place % 4);
                k++;
            }
        }
        return words;
    }

    private static int treeNumber(Numbers numbers) {
        return numbers.once(60) ? numbers.below(9) - 4 : numbers.below(2);
    }

    private static int someBytes(Numbers numbers) {
        int word = 0;
        for (int k = 0; k < 4; k++) {
            int value = numbers.once(3) ? 0 : numbers.once(4) ? numbers.below(256) : 1 + numbers.below(2);
            word |= value << 8 * k;
        }
        return word;
    }

    private static int[] argumentsOf(String name, Numbers numbers, Manner manner, Model model) {
        int tree = treeNumber(numbers);
        switch (name) {
            case "path": return pathWords(numbers, randomPath(numbers, manner, model));
            case "file":
            case "add": return new int[] {tree, someBytes(numbers)};
            case "move":
                int[] words = pathWords(numbers, movePath(numbers, manner, model));
                return new int[] {tree, words[0], words[1], words[2]};
            case "copy": return new int[] {tree, treeNumber(numbers)};
            case "layer": return new int[] {numbers.below(model.layer().length() + 3) - 1};
            case "same": return new int[0];
            case "entry":
                int size = model.trees.get(tree & 1).size();
                return new int[] {tree, numbers.below(size + 3) - 1, numbers.below(35) - 1};
            default: return new int[] {tree};
        }
    }

    private static String chooseCall(Numbers numbers, Manner manner) {
        int at = numbers.below(Arrays.stream(manner.weights).sum());
        for (int i = 0; i < CALLS_TOLD.length; i++) {
            at -= manner.weights[i];
            if (at < 0) {
                return CALLS_TOLD[i];
            }
        }
        return "same";
    }

    /** Any int at all in the place of one argument. */
    private static void makeWild(int[] v, Numbers numbers) {
        if (v.length > 0) {
            v[numbers.below(v.length)] = numbers.below(1 << 16) << 16 | numbers.below(1 << 16);
        }
    }

    private static boolean runIsRight(int run) {
        Numbers numbers = new Numbers(run);
        Manner manner = MANNERS[run % MANNERS.length];
        Twin twin = new Twin("run " + run);
        for (int i = 0; i < CALLS && twin.isAlike(); i++) {
            String name = i >= manner.fill ? chooseCall(numbers, manner)
                    : i % 2 == 0 ? "path" : numbers.once(2) ? "file" : "directory";
            int[] v = argumentsOf(name, numbers, manner, twin.model);
            if (numbers.once(100)) {
                makeWild(v, numbers);
            }
            String due = twin.call(name, v);
            Model.count(name + " " + (due.startsWith("throws") ? due : "answers"), true);
        }
        return twin.isAlike();
    }

    // Without these the runs would miss edges that they are meant to reach.
    private static final String[] MUST_BE_SEEN = {
        "add answers", "add throws.UnsupportedOperationException", "apply answers",
        "apply throws.IllegalStateException", "directory throws.UnsupportedOperationException",
        "file throws.UnsupportedOperationException", "move answers", "move throws.IllegalStateException",
        "move throws.IllegalArgumentException", "entry throws.IndexOutOfBoundsException",
        "layer throws.IndexOutOfBoundsException", "copy throws.IllegalArgumentException",
        "item 1", "item 2", "item 3", "item 4", "item as 41st", "item in a full tree",
        "signs over twelve", "signs up to nineteen"};

    public static void main(String[] args) {
        int wrong = 0;
        for (int run = 0; run < RUNS && wrong < 20; run++) {
            wrong += runIsRight(run) ? 0 : 1;
        }
        for (String edge : MUST_BE_SEEN) {
            due("often enough: " + edge, wrong > 0 || Model.seen.getOrDefault(edge, 0) >= 30, true);
        }
        if (args.length > 0) {
            System.out.println(Model.seen);
        }
        finish();
    }
}
