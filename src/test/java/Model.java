import java.util.ArrayList;
import java.util.List;
import java.util.TreeMap;
import java.util.TreeSet;

/**
 * A plain model of the class, written from the document's words. A text stands for bytes or signs 0 to 255;
 * null stands for a directory.
 */
final class Model {
    /** How often the calls of all models met what, so that a test can tell that it reached an edge. */
    static final TreeMap<String, Integer> seen = new TreeMap<>();

    final List<TreeMap<String, String>> trees = new ArrayList<>(List.of(new TreeMap<>(), new TreeMap<>()));
    private final List<String[]> items = new ArrayList<>();
    private String path = null;
    private String layer = "";

    static void count(String edge, boolean met) {
        if (met) {
            seen.merge(edge, 1, Integer::sum);
        }
    }

    /** THE PATH, or null. */
    String path() {
        return path;
    }

    String layer() {
        return layer;
    }

    static String textOf(int... words) {
        StringBuilder text = new StringBuilder();
        for (int word : words) {
            for (int k = 0; k < 4; k++) {
                char c = (char) (word >>> 8 * k & 255);
                text.append(c == 0 ? "" : String.valueOf(c));
            }
        }
        return text.toString();
    }

    static boolean isPath(String text) {
        return text.matches("[a-z0-9]{1,4}(/[a-z0-9]{1,4}){0,3}");
    }

    static String shorter(String path) {
        return path.contains("/") ? path.substring(0, path.lastIndexOf('/')) : null;
    }

    static boolean isDirectory(TreeMap<String, String> tree, String path) {
        return path == null || tree.containsKey(path) && tree.get(path) == null;
    }

    static boolean isFile(TreeMap<String, String> tree, String path) {
        return tree.get(path) != null;
    }

    static void dropBelow(TreeMap<String, String> tree, String path) {
        tree.keySet().removeIf(p -> p.startsWith(path + "/"));
    }

    static int names(String path) {
        return path.split("/").length;
    }

    TreeMap<String, String> tree(int tree) {
        if (tree < 0 || tree > 1) {
            throw new IllegalArgumentException();
        }
        return trees.get(tree);
    }

    static void stateIf(boolean wrong) {
        if (wrong) {
            throw new IllegalStateException();
        }
    }

    static void tooMuchIf(boolean wrong) {
        if (wrong) {
            throw new UnsupportedOperationException();
        }
    }

    int call(String name, int[] v) {
        switch (name) {
            case "path": return tellPath(v);
            case "directory": return makeDirectory(v);
            case "file": return makeFile(v);
            case "add": return addBytes(v);
            case "remove": return takeAway(v);
            case "move": return bring(v);
            case "copy":
                TreeMap<String, String> like = new TreeMap<>(tree(v[0]));
                tree(v[1]);
                trees.set(v[1], like);
                return 0;
            case "changes": return tellChanges(v);
            case "layer":
                if (v[0] < 0 || v[0] >= layer.length()) {
                    throw new IndexOutOfBoundsException();
                }
                return layer.charAt(v[0]);
            case "apply": return applyLayer(v);
            case "same": return trees.get(0).equals(trees.get(1)) ? 1 : 0;
            case "entries": return tree(v[0]).size();
            default: return tellEntry(v);
        }
    }

    int tellPath(int[] v) {
        String text = textOf(v[0], v[1], v[2]);
        path = isPath(text) ? text : null;
        return path == null ? 0 : 1;
    }

    int makeDirectory(int[] v) {
        TreeMap<String, String> tree = tree(v[0]);
        stateIf(path == null || tree.containsKey(path) || !isDirectory(tree, shorter(path)));
        tooMuchIf(tree.size() == 40);
        tree.put(path, null);
        return 0;
    }

    int makeFile(int[] v) {
        TreeMap<String, String> tree = tree(v[0]);
        stateIf(path == null || isDirectory(tree, path) || !isDirectory(tree, shorter(path)));
        tooMuchIf(tree.size() == 40 && !tree.containsKey(path));
        tree.put(path, textOf(v[1]));
        return 0;
    }

    int addBytes(int[] v) {
        TreeMap<String, String> tree = tree(v[0]);
        stateIf(path == null || !isFile(tree, path));
        String bytes = tree.get(path) + textOf(v[1]);
        tooMuchIf(bytes.length() > 16);
        tree.put(path, bytes);
        return 0;
    }

    int takeAway(int[] v) {
        TreeMap<String, String> tree = tree(v[0]);
        stateIf(path == null || !tree.containsKey(path));
        tree.remove(path);
        dropBelow(tree, path);
        return 0;
    }

    int bring(int[] v) {
        TreeMap<String, String> tree = tree(v[0]);
        String to = textOf(v[1], v[2], v[3]);
        if (!isPath(to)) {
            throw new IllegalArgumentException();
        }
        stateIf(path == null || !tree.containsKey(path) || tree.containsKey(to)
                || to.startsWith(path + "/") || !isDirectory(tree, shorter(to)));
        TreeMap<String, String> moved = new TreeMap<>();
        for (String p : tree.keySet()) {
            boolean comes = p.equals(path) || p.startsWith(path + "/");
            String now = comes ? to + p.substring(path.length()) : p;
            stateIf(names(now) > 4);
            moved.put(now, tree.get(p));
            count("signs over twelve", now.length() > 12);
            count("signs up to nineteen", now.length() == 19);
        }
        trees.set(v[0], moved);
        return 0;
    }

    static boolean isEmptied(TreeMap<String, String> a, TreeMap<String, String> b, String path) {
        if (path == null || !a.containsKey(path) || !isDirectory(a, path) || !isDirectory(b, path)) {
            return false;
        }
        List<String> below = new ArrayList<>();
        for (String p : a.keySet()) {
            if (path.equals(shorter(p))) {
                below.add(p);
            }
        }
        return below.size() >= 2 && below.stream().noneMatch(b::containsKey);
    }

    /** 0 for no item. */
    static int itemKind(TreeMap<String, String> a, TreeMap<String, String> b, String path) {
        if (!b.containsKey(path)) {
            boolean gone = isDirectory(b, shorter(path)) && !isEmptied(a, b, shorter(path));
            return gone ? 3 : 0;
        }
        if (!a.containsKey(path)) {
            return isFile(b, path) ? 2 : 1;
        }
        if (isFile(b, path)) {
            return isFile(a, path) && a.get(path).equals(b.get(path)) ? 0 : 2;
        }
        return isFile(a, path) ? 1 : isEmptied(a, b, path) ? 4 : 0;
    }

    int tellChanges(int[] v) {
        TreeMap<String, String> a = tree(v[0]);
        TreeMap<String, String> b = tree(1 - v[0]);
        TreeSet<String> all = new TreeSet<>(a.keySet());
        all.addAll(b.keySet());
        items.clear();
        StringBuilder bytes = new StringBuilder();
        for (String p : all) {
            int kind = itemKind(a, b, p);
            count("item " + kind, true);
            if (kind != 0) {
                String content = kind == 2 ? b.get(p) : "";
                items.add(new String[] {String.valueOf(kind), p, content});
                bytes.append((char) kind).append((char) p.length()).append(p);
                bytes.append((char) content.length()).append((char) 0).append(content);
            }
        }
        layer = bytes.toString();
        return layer.length();
    }

    int applyLayer(int[] v) {
        TreeMap<String, String> tree = new TreeMap<>(tree(v[0]));
        for (String[] item : items) {
            String p = item[1];
            switch (item[0]) {
                case "1":
                case "2":
                    stateIf(!isDirectory(tree, shorter(p)));
                    count("item as 41st", tree.size() == 40 && !tree.containsKey(p));
                    count("item in a full tree", tree.size() == 40 && tree.containsKey(p));
                    stateIf(tree.size() == 40 && !tree.containsKey(p));
                    tree.put(p, item[0].equals("1") ? null : item[2]);
                    if (item[0].equals("2")) {
                        dropBelow(tree, p);
                    }
                    break;
                case "4":
                    stateIf(!isDirectory(tree, p));
                    dropBelow(tree, p);
                    break;
                default:
                    stateIf(!tree.containsKey(p));
                    tree.remove(p);
                    dropBelow(tree, p);
                    break;
            }
        }
        trees.set(v[0], tree);
        return 0;
    }

    int tellEntry(int[] v) {
        TreeMap<String, String> tree = tree(v[0]);
        if (v[2] < 0 || v[2] > 31) {
            throw new IllegalArgumentException();
        }
        if (v[1] < 0 || v[1] >= tree.size()) {
            throw new IndexOutOfBoundsException();
        }
        String p = new ArrayList<>(tree.keySet()).get(v[1]);
        String bytes = tree.get(p) == null ? "" : tree.get(p);
        if (v[2] < 3) {
            return v[2] == 0 ? (tree.get(p) == null ? 1 : 2) : v[2] == 1 ? names(p) : bytes.length();
        }
        String text = v[2] < 16 ? p : bytes;
        int k = v[2] < 16 ? v[2] - 3 : v[2] - 16;
        return k < text.length() ? text.charAt(k) : -1;
    }
}
