import java.util.function.Supplier;

/** What the tests share: due answers, calls with texts for signs and bytes, and trees as texts. */
abstract class Trials {
    static final String IAE = "throws.IllegalArgumentException";
    static final String ISE = "throws.IllegalStateException";
    static final String UOE = "throws.UnsupportedOperationException";
    static final String IOOBE = "throws.IndexOutOfBoundsException";
    static final String DONE = "0";
    static final int[] NO_TREES = {-1, 2, 3, Integer.MIN_VALUE, Integer.MAX_VALUE};

    private static final int MOST_TOLD = 50;

    private static int wrong = 0;
    private static int sentences = 0;
    private static String sentence = "";

    static void due(String what, Object got, Object want) {
        if (!String.valueOf(got).equals(String.valueOf(want))) {
            wrong++;
            tell(sentence + what + " answered " + got + ", due is " + want);
        }
    }

    private static void tell(String text) {
        if (wrong <= MOST_TOLD) {
            System.out.println(text);
        }
    }

    static String answer(Supplier<?> call) {
        try {
            return String.valueOf(call.get());
        } catch (RuntimeException e) {
            return "throws." + e.getClass().getSimpleName();
        }
    }

    static String outcome(Runnable call) {
        return answer(() -> {
            call.run();
            return 0;
        });
    }

    static int word(String signs, int n) {
        int word = 0;
        for (int k = 4 * n; k < 4 * n + 4 && k < signs.length(); k++) {
            word |= (signs.charAt(k) & 255) << (8 * (k % 4));
        }
        return word;
    }

    static boolean path(TreeChanges x, String signs) {
        return x.path(word(signs, 0), word(signs, 1), word(signs, 2));
    }

    static String directory(TreeChanges x, int tree, String signs) {
        path(x, signs);
        return outcome(() -> x.directory(tree));
    }

    static String file(TreeChanges x, int tree, String signs, String bytes) {
        path(x, signs);
        return outcome(() -> x.file(tree, word(bytes, 0)));
    }

    static String add(TreeChanges x, int tree, String signs, String bytes) {
        path(x, signs);
        return outcome(() -> x.add(tree, word(bytes, 0)));
    }

    static String remove(TreeChanges x, int tree, String signs) {
        path(x, signs);
        return outcome(() -> x.remove(tree));
    }

    static String move(TreeChanges x, int tree, String signs, String to) {
        path(x, signs);
        return outcome(() -> x.move(tree, word(to, 0), word(to, 1), word(to, 2)));
    }

    static String list(TreeChanges x, int tree) {
        StringBuilder all = new StringBuilder();
        int entries = x.entries(tree);
        for (int i = 0; i < entries; i++) {
            all.append(i == 0 ? "" : " ").append(entryOf(x, tree, i));
        }
        return all.toString();
    }

    static String entryOf(TreeChanges x, int tree, int i) {
        StringBuilder entry = new StringBuilder(pathOf(x, tree, i));
        if (x.entry(tree, i, 0) == 2) {
            entry.append('=');
            int size = x.entry(tree, i, 2);
            for (int k = 0; k < size; k++) {
                entry.append((char) x.entry(tree, i, 16 + k));
            }
        }
        return entry.toString();
    }

    /** The first thirteen signs alone are told, so a longer path ends in a *. */
    static String pathOf(TreeChanges x, int tree, int i) {
        StringBuilder path = new StringBuilder();
        for (int k = 0; k <= 12; k++) {
            int sign = x.entry(tree, i, 3 + k);
            if (sign == TreeChanges.NONE) {
                return path.toString();
            }
            path.append((char) sign);
        }
        return path.append('*').toString();
    }

    static String byteAsText(int value) {
        return value >= 33 && value < 127 ? String.valueOf((char) value) : "<" + value + ">";
    }

    static String layer(TreeChanges x, int length) {
        StringBuilder all = new StringBuilder();
        for (int k = 0; k < length; k++) {
            all.append(byteAsText(x.layer(k)));
        }
        due("behind the layer's end", answer(() -> x.layer(length)), IOOBE);
        return all.toString();
    }

    static String changes(TreeChanges x, int from) {
        return layer(x, x.changes(from));
    }

    /** Tree by words: a name with = is a file, the rest are directories. */
    static void grow(TreeChanges x, int tree, String words) {
        for (String word : words.split(" ")) {
            int is = word.indexOf('=');
            String got = is < 0 ? directory(x, tree, word)
                    : file(x, tree, word.substring(0, is), word.substring(is + 1));
            due("growing " + word, got, DONE);
        }
    }

    static TreeChanges pair(String tree0, String tree1) {
        TreeChanges x = new TreeChanges();
        if (!tree0.isEmpty()) {
            grow(x, 0, tree0);
        }
        if (!tree1.isEmpty()) {
            grow(x, 1, tree1);
        }
        return x;
    }

    static String numbered(String before, int from, int count, String after) {
        StringBuilder all = new StringBuilder();
        for (int i = from; i < from + count; i++) {
            all.append(i == from ? "" : " ").append(before).append(10 + i).append(after);
        }
        return all.toString();
    }

    /** A test of one sentence of the document; what goes wrong in it is told with that sentence. */
    static void sentence(String words, Runnable test) {
        sentence = "'" + words + "': ";
        sentences++;
        test.run();
        sentence = "";
    }

    static void finish() {
        String tested = sentences == 0 ? "" : sentences + " sentences, ";
        System.out.println(tested
                + (wrong == 0 ? "all answers are as due" : wrong + " answers are not as due"));
        if (wrong != 0) {
            System.exit(1);
        }
    }
}
