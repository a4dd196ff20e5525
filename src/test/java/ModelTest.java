import java.util.ArrayList;
import java.util.Arrays;
import java.util.List;
import java.util.TreeMap;
import java.util.TreeSet;

/** Many runs of calls, each answer beside that of a plain model written from the document's words. */
public final class ModelTest {
    private static final int RUNS = 6000;
    private static final int CALLS = 512;
    private static final String[] CALLS_TOLD = {"path", "directory", "file", "add", "remove", "move", "copy",
        "changes", "layer", "apply", "same", "entries", "entry"};

    private static final TreeMap<String, Integer> seen = new TreeMap<>();

    private static void count(String edge, boolean met) {
        if (met) {
            seen.merge(edge, 1, Integer::sum);
        }
    }

    /** A text stands for bytes or signs 0 to 255; null stands for a directory. */
    private static final class Model {
        private List<TreeMap<String, String>> trees =
                new ArrayList<>(List.of(new TreeMap<>(), new TreeMap<>()));
        private String path = null;
        private String layer = "";
        private List<String[]> items = new ArrayList<>();

        static String textOf(int... words) {
            StringBuilder text = new StringBuilder();
            for (int word : words) {
                for (int k = 0; k < 4; k++) {
                    char c = (char) (word >>> 8 * k & 255);
                    text.append(c == 0 ? "" : String.valueOf(c));
                }
            }
            return text.toString();
        }

        static boolean isPath(String text) {
            return text.matches("[a-z0-9]{1,4}(/[a-z0-9]{1,4}){0,3}");
        }

        static String shorter(String path) {
            return path.contains("/") ? path.substring(0, path.lastIndexOf('/')) : null;
        }

        static boolean isDirectory(TreeMap<String, String> tree, String path) {
            return path == null || tree.containsKey(path) && tree.get(path) == null;
        }

        static boolean isFile(TreeMap<String, String> tree, String path) {
            return tree.get(path) != null;
        }

        static void dropBelow(TreeMap<String, String> tree, String path) {
            tree.keySet().removeIf(p -> p.startsWith(path + "/"));
        }

        static int names(String path) {
            return path.split("/").length;
        }

        TreeMap<String, String> tree(int tree) {
            if (tree < 0 || tree > 1) {
                throw new IllegalArgumentException();
            }
            return trees.get(tree);
        }

        static void stateIf(boolean wrong) {
            if (wrong) {
                throw new IllegalStateException();
            }
        }

        static void tooMuchIf(boolean wrong) {
            if (wrong) {
                throw new UnsupportedOperationException();
            }
        }

        int call(String name, int[] v) {
            switch (name) {
                case "path": return tellPath(v);
                case "directory": return makeDirectory(v);
                case "file": return makeFile(v);
                case "add": return addBytes(v);
                case "remove": return takeAway(v);
                case "move": return bring(v);
                case "copy":
                    TreeMap<String, String> like = new TreeMap<>(tree(v[0]));
                    tree(v[1]);
                    trees.set(v[1], like);
                    return 0;
                case "changes": return tellChanges(v);
                case "layer":
                    if (v[0] < 0 || v[0] >= layer.length()) {
                        throw new IndexOutOfBoundsException();
                    }
                    return layer.charAt(v[0]);
                case "apply": return applyLayer(v);
                case "same": return trees.get(0).equals(trees.get(1)) ? 1 : 0;
                case "entries": return tree(v[0]).size();
                default: return tellEntry(v);
            }
        }

        int tellPath(int[] v) {
            String text = textOf(v[0], v[1], v[2]);
            path = isPath(text) ? text : null;
            return path == null ? 0 : 1;
        }

        int makeDirectory(int[] v) {
            TreeMap<String, String> tree = tree(v[0]);
            stateIf(path == null || tree.containsKey(path) || !isDirectory(tree, shorter(path)));
            tooMuchIf(tree.size() == 40);
            tree.put(path, null);
            return 0;
        }

        int makeFile(int[] v) {
            TreeMap<String, String> tree = tree(v[0]);
            stateIf(path == null || isDirectory(tree, path) || !isDirectory(tree, shorter(path)));
            tooMuchIf(tree.size() == 40 && !tree.containsKey(path));
            tree.put(path, textOf(v[1]));
            return 0;
        }

        int addBytes(int[] v) {
            TreeMap<String, String> tree = tree(v[0]);
            stateIf(path == null || !isFile(tree, path));
            String bytes = tree.get(path) + textOf(v[1]);
            tooMuchIf(bytes.length() > 16);
            tree.put(path, bytes);
            return 0;
        }

        int takeAway(int[] v) {
            TreeMap<String, String> tree = tree(v[0]);
            stateIf(path == null || !tree.containsKey(path));
            tree.remove(path);
            dropBelow(tree, path);
            return 0;
        }

        int bring(int[] v) {
            TreeMap<String, String> tree = tree(v[0]);
            String to = textOf(v[1], v[2], v[3]);
            if (!isPath(to)) {
                throw new IllegalArgumentException();
            }
            stateIf(path == null || !tree.containsKey(path) || tree.containsKey(to)
                    || to.startsWith(path + "/") || !isDirectory(tree, shorter(to)));
            TreeMap<String, String> moved = new TreeMap<>();
            for (String p : tree.keySet()) {
                boolean comes = p.equals(path) || p.startsWith(path + "/");
                String now = comes ? to + p.substring(path.length()) : p;
                stateIf(names(now) > 4);
                moved.put(now, tree.get(p));
                count("signs over twelve", now.length() > 12);
                count("signs up to nineteen", now.length() == 19);
            }
            trees.set(v[0], moved);
            return 0;
        }

        static boolean isEmptied(TreeMap<String, String> a, TreeMap<String, String> b, String path) {
            if (path == null || !a.containsKey(path) || !isDirectory(a, path) || !isDirectory(b, path)) {
                return false;
            }
            List<String> below = new ArrayList<>();
            for (String p : a.keySet()) {
                if (path.equals(shorter(p))) {
                    below.add(p);
                }
            }
            return below.size() >= 2 && below.stream().noneMatch(b::containsKey);
        }

        /** 0 for no item. */
        static int itemKind(TreeMap<String, String> a, TreeMap<String, String> b, String path) {
            if (!b.containsKey(path)) {
                boolean gone = isDirectory(b, shorter(path)) && !isEmptied(a, b, shorter(path));
                return gone ? 3 : 0;
            }
            if (!a.containsKey(path)) {
                return isFile(b, path) ? 2 : 1;
            }
            if (isFile(b, path)) {
                return isFile(a, path) && a.get(path).equals(b.get(path)) ? 0 : 2;
            }
            return isFile(a, path) ? 1 : isEmptied(a, b, path) ? 4 : 0;
        }

        int tellChanges(int[] v) {
            TreeMap<String, String> a = tree(v[0]);
            TreeMap<String, String> b = tree(1 - v[0]);
            TreeSet<String> all = new TreeSet<>(a.keySet());
            all.addAll(b.keySet());
            items.clear();
            StringBuilder bytes = new StringBuilder();
            for (String p : all) {
                int kind = itemKind(a, b, p);
                count("item " + kind, true);
                if (kind != 0) {
                    String content = kind == 2 ? b.get(p) : "";
                    items.add(new String[] {String.valueOf(kind), p, content});
                    bytes.append((char) kind).append((char) p.length()).append(p);
                    bytes.append((char) content.length()).append((char) 0).append(content);
                }
            }
            layer = bytes.toString();
            return layer.length();
        }

        int applyLayer(int[] v) {
            TreeMap<String, String> tree = new TreeMap<>(tree(v[0]));
            for (String[] item : items) {
                String p = item[1];
                switch (item[0]) {
                    case "1":
                    case "2":
                        stateIf(!isDirectory(tree, shorter(p)));
                        count("item as 41st", tree.size() == 40 && !tree.containsKey(p));
                        count("item in a full tree", tree.size() == 40 && tree.containsKey(p));
                        stateIf(tree.size() == 40 && !tree.containsKey(p));
                        tree.put(p, item[0].equals("1") ? null : item[2]);
                        if (item[0].equals("2")) {
                            dropBelow(tree, p);
                        }
                        break;
                    case "4":
                        stateIf(!isDirectory(tree, p));
                        dropBelow(tree, p);
                        break;
                    default:
                        stateIf(!tree.containsKey(p));
                        tree.remove(p);
                        dropBelow(tree, p);
                        break;
                }
            }
            trees.set(v[0], tree);
            return 0;
        }

        int tellEntry(int[] v) {
            TreeMap<String, String> tree = tree(v[0]);
            if (v[2] < 0 || v[2] > 31) {
                throw new IllegalArgumentException();
            }
            if (v[1] < 0 || v[1] >= tree.size()) {
                throw new IndexOutOfBoundsException();
            }
            String p = new ArrayList<>(tree.keySet()).get(v[1]);
            String bytes = tree.get(p) == null ? "" : tree.get(p);
            if (v[2] < 3) {
                return v[2] == 0 ? (tree.get(p) == null ? 1 : 2) : v[2] == 1 ? names(p) : bytes.length();
            }
            String text = v[2] < 16 ? p : bytes;
            int k = v[2] < 16 ? v[2] - 3 : v[2] - 16;
            return k < text.length() ? text.charAt(k) : -1;
        }
    }

    /** Numbers from a seed alone, so that every run of the test is the same. */
    private static final class Numbers {
        private long state;

        Numbers(long seed) {
            state = seed * 0x9E3779B97F4A7C15L + 1;
        }

        int below(int bound) {
            state = state * 6364136223846793005L + 1442695040888963407L;
            return (int) ((state >>> 33) % bound);
        }

        boolean once(int in) {
            return below(in) == 0;
        }
    }

    private static int callReal(TreeChanges x, String name, int[] v) {
        switch (name) {
            case "path": return x.path(v[0], v[1], v[2]) ? 1 : 0;
            case "directory": x.directory(v[0]); return 0;
            case "file": x.file(v[0], v[1]); return 0;
            case "add": x.add(v[0], v[1]); return 0;
            case "remove": x.remove(v[0]); return 0;
            case "move": x.move(v[0], v[1], v[2], v[3]); return 0;
            case "copy": x.copy(v[0], v[1]); return 0;
            case "changes": return x.changes(v[0]);
            case "layer": return x.layer(v[0]);
            case "apply": x.apply(v[0]); return 0;
            case "same": return x.same() ? 1 : 0;
            case "entries": return x.entries(v[0]);
            default: return x.entry(v[0], v[1], v[2]);
        }
    }

    private static String answerOf(TreeChanges x, Model model, String name, int[] v) {
        try {
            return String.valueOf(x != null ? callReal(x, name, v) : model.call(name, v));
        } catch (IllegalArgumentException | IllegalStateException | UnsupportedOperationException
                | IndexOutOfBoundsException e) {
            return "throws." + e.getClass().getSimpleName();
        }
    }

    /** What a run's names are like, how many calls fill its trees first, and how often each call comes. */
    private static final class Manner {
        private final int letters;
        private final int nameLength;
        private final int fill;
        private final int[] weights;

        Manner(int letters, int nameLength, int fill, int... weights) {
            this.letters = letters;
            this.nameLength = nameLength;
            this.fill = fill;
            this.weights = weights;
        }
    }

    // path, directory, file, add, remove, move, copy, changes, layer, apply, same, entries, entry
    private static final Manner[] MANNERS = {
        new Manner(2, 1, 40, 12, 8, 6, 4, 2, 3, 1, 4, 4, 3, 1, 1, 8),
        new Manner(3, 1, 100, 12, 6, 10, 2, 1, 2, 1, 3, 3, 3, 1, 1, 6),
        new Manner(6, 2, 240, 12, 6, 10, 1, 1, 1, 0, 2, 2, 4, 1, 1, 4),
        new Manner(2, 4, 60, 12, 12, 6, 4, 1, 12, 1, 3, 4, 3, 1, 1, 8),
        new Manner(36, 2, 250, 12, 8, 8, 1, 1, 1, 0, 2, 2, 4, 1, 1, 4),
        new Manner(2, 1, 0, 10, 10, 6, 8, 2, 4, 0, 5, 6, 5, 2, 1, 8),
        new Manner(2, 1, 20, 8, 2, 2, 30, 1, 1, 1, 5, 10, 5, 2, 1, 20),
    };

    private static String randomPath(Numbers numbers, Manner manner, Model model) {
        TreeMap<String, String> tree = model.trees.get(numbers.below(2));
        String start = "";
        if (!tree.isEmpty() && numbers.below(3) > 0) {
            start = new ArrayList<>(tree.keySet()).get(numbers.below(tree.size()));
            if (numbers.once(3)) {
                return start;
            }
            start = start + "/";
        }
        StringBuilder path = new StringBuilder(start).append(randomName(numbers, manner));
        if (numbers.once(40)) {
            path.insert(numbers.below(path.length() + 1), (char) numbers.below(256));
        }
        return path.toString();
    }

    private static String randomName(Numbers numbers, Manner manner) {
        StringBuilder name = new StringBuilder();
        int length = numbers.once(2) ? 1 : manner.nameLength;
        for (int k = 0; k < length; k++) {
            name.append("ab0z19cdefghijklmnopqrstuvwxy2345678".charAt(numbers.below(manner.letters)));
        }
        return name.toString();
    }

    /** Often another name in the same directory, which makes paths longer and shorter. */
    private static String movePath(Numbers numbers, Manner manner, Model model) {
        if (model.path == null || numbers.once(2)) {
            return randomPath(numbers, manner, model);
        }
        String shorter = Model.shorter(model.path);
        return (shorter == null ? "" : shorter + "/") + randomName(numbers, manner);
    }

    private static int[] pathWords(Numbers numbers, String path) {
        int[] words = new int[3];
        int k = 0;
        for (int place = 0; place < 12 && k < path.length(); place++) {
            boolean spare = path.length() - k < 12 - place;
            if (!(spare && numbers.once(12))) {
                words[place / 4] |= path.charAt(k) << 8 * (place % 4);
                k++;
            }
        }
        return words;
    }

    private static int treeNumber(Numbers numbers) {
        return numbers.once(60) ? numbers.below(9) - 4 : numbers.below(2);
    }

    private static int someBytes(Numbers numbers) {
        int word = 0;
        for (int k = 0; k < 4; k++) {
            int value = numbers.once(3) ? 0 : numbers.once(4) ? numbers.below(256) : 1 + numbers.below(2);
            word |= value << 8 * k;
        }
        return word;
    }

    private static int[] argumentsOf(String name, Numbers numbers, Manner manner, Model model) {
        int tree = treeNumber(numbers);
        switch (name) {
            case "path": return pathWords(numbers, randomPath(numbers, manner, model));
            case "file":
            case "add": return new int[] {tree, someBytes(numbers)};
            case "move":
                int[] words = pathWords(numbers, movePath(numbers, manner, model));
                return new int[] {tree, words[0], words[1], words[2]};
            case "copy": return new int[] {tree, treeNumber(numbers)};
            case "layer": return new int[] {numbers.below(model.layer.length() + 3) - 1};
            case "same": return new int[0];
            case "entry":
                int size = model.trees.get(tree & 1).size();
                return new int[] {tree, numbers.below(size + 3) - 1, numbers.below(35) - 1};
            default: return new int[] {tree};
        }
    }

    private static String chooseCall(Numbers numbers, Manner manner) {
        int at = numbers.below(Arrays.stream(manner.weights).sum());
        for (int i = 0; i < CALLS_TOLD.length; i++) {
            at -= manner.weights[i];
            if (at < 0) {
                return CALLS_TOLD[i];
            }
        }
        return "same";
    }

    private static boolean runIsRight(int run) {
        Numbers numbers = new Numbers(run);
        Manner manner = MANNERS[run % MANNERS.length];
        TreeChanges x = new TreeChanges();
        Model model = new Model();
        for (int i = 0; i < CALLS; i++) {
            String name = i >= manner.fill ? chooseCall(numbers, manner)
                    : i % 2 == 0 ? "path" : numbers.once(2) ? "file" : "directory";
            int[] v = argumentsOf(name, numbers, manner, model);
            String got = answerOf(x, null, name, v);
            String want = answerOf(null, model, name, v);
            count(name + " " + (want.startsWith("throws") ? want : "answers"), true);
            if (!got.equals(want)) {
                System.out.println("run " + run + ", call " + i + ": " + name + Arrays.toString(v)
                        + " answered " + got + ", due is " + want);
                return false;
            }
        }
        return true;
    }

    // Without these the runs would miss edges that they are meant to reach.
    private static final String[] MUST_BE_SEEN = {
        "add answers", "add throws.UnsupportedOperationException", "apply answers",
        "apply throws.IllegalStateException", "directory throws.UnsupportedOperationException",
        "file throws.UnsupportedOperationException", "move answers", "move throws.IllegalStateException",
        "move throws.IllegalArgumentException", "entry throws.IndexOutOfBoundsException",
        "layer throws.IndexOutOfBoundsException", "copy throws.IllegalArgumentException",
        "item 1", "item 2", "item 3", "item 4", "item as 41st", "item in a full tree",
        "signs over twelve", "signs up to nineteen"};

    public static void main(String[] args) {
        int wrong = 0;
        for (int run = 0; run < RUNS && wrong < 20; run++) {
            wrong += runIsRight(run) ? 0 : 1;
        }
        for (String edge : MUST_BE_SEEN) {
            if (wrong == 0 && seen.getOrDefault(edge, 0) < 30) {
                wrong++;
                System.out.println("hardly seen: " + edge);
            }
        }
        if (args.length > 0) {
            System.out.println(seen);
        }
        System.out.println(wrong == 0 ? "all answers are as due" : wrong + " runs are not as due");
        if (wrong != 0) {
            System.exit(1);
        }
    }
}
