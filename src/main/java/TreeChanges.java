/**
 * Two trees of files, and the changes from one to the other as a layer of bytes, which applied to
 * the one make the other.
 */
public final class TreeChanges {
    public static final int NONE = -1;

    private static final int DIRECTORY = 1;
    private static final int FILE = 2;
    private static final int GONE = 3;
    private static final int EMPTIED = 4;

    private static final int MOST_ENTRIES = 40;
    private static final int MOST_BYTES = 16;
    private static final int MOST_NAMES = 4;
    private static final int MOST_NAME_SIGNS = 4;
    // A moved path keeps four names of four signs, so it can outgrow the twelve that a call tells.
    private static final int MOST_SIGNS = 19;

    private static final int ITEM_HEAD = 4;
    // Each path of either tree has at most one item, and only those of the newer tree have bytes.
    private static final int MOST_ITEMS = 2 * MOST_ENTRIES;
    private static final int MOST_LAYER =
            MOST_ITEMS * (ITEM_HEAD + MOST_SIGNS) + MOST_ENTRIES * MOST_BYTES;

    private static final int SIGN_WHAT = 3;
    private static final int BYTE_WHAT = 16;
    private static final int LAST_WHAT = 31;

    private static final char SLASH = '/';
    private static final int WORD_BYTES = 4;

    private final Tree tree0 = new Tree();
    private final Tree tree1 = new Tree();
    // Where a layer is tried, so that one that can't be applied leaves its tree as it was.
    private final Tree trial = new Tree();
    private final Path thePath = new Path();
    private final Path otherPath = new Path();
    private final Entry item = new Entry();
    private final Layer theLayer = new Layer();

    public TreeChanges() {
    }

    public boolean path(int a, int b, int c) {
        return thePath.readSigns(a, b, c);
    }

    public void directory(int tree)
            throws IllegalArgumentException, IllegalStateException, UnsupportedOperationException {
        Tree chosen = treeOf(tree);
        if (thePath.isNone() || chosen.kindOf(thePath) != NONE || !chosen.hasPlaceFor(thePath)) {
            throw new IllegalStateException("no path, it is in the tree, or nothing to hold it");
        }
        if (chosen.isFull()) {
            throw new UnsupportedOperationException("the tree is full");
        }
        item.begin(thePath, DIRECTORY);
        chosen.put(item);
    }

    public void file(int tree, int bytes)
            throws IllegalArgumentException, IllegalStateException, UnsupportedOperationException {
        Tree chosen = treeOf(tree);
        if (thePath.isNone() || !chosen.hasPlaceFor(thePath)) {
            throw new IllegalStateException("no path, or nothing to hold it");
        }
        int kind = chosen.kindOf(thePath);
        if (kind == DIRECTORY) {
            throw new IllegalStateException("it is a directory");
        }
        if (kind == NONE && chosen.isFull()) {
            throw new UnsupportedOperationException("the tree is full");
        }
        item.begin(thePath, FILE);
        item.appendWord(bytes);
        chosen.put(item);
    }

    public void add(int tree, int bytes)
            throws IllegalArgumentException, IllegalStateException, UnsupportedOperationException {
        Tree chosen = treeOf(tree);
        int at = chosen.find(thePath);
        if (at == NONE || chosen.rows[at].kind != FILE) {
            throw new IllegalStateException("no path, or it is no file");
        }
        if (chosen.rows[at].size + bytesIn(bytes) > MOST_BYTES) {
            throw new UnsupportedOperationException("the file would have too many bytes");
        }
        chosen.rows[at].appendWord(bytes);
    }

    public void remove(int tree) throws IllegalArgumentException, IllegalStateException {
        Tree chosen = treeOf(tree);
        if (chosen.find(thePath) == NONE) {
            throw new IllegalStateException("no path, or nothing there");
        }
        chosen.drop(thePath, true);
    }

    public void move(int tree, int a, int b, int c)
            throws IllegalArgumentException, IllegalStateException {
        Tree chosen = treeOf(tree);
        if (!otherPath.readSigns(a, b, c)) {
            throw new IllegalArgumentException("the signs are no path");
        }
        if (!chosen.canShift(thePath, otherPath)) {
            throw new IllegalStateException("it can't come to the other path");
        }
        chosen.shift(thePath, otherPath);
    }

    public void copy(int from, int to) throws IllegalArgumentException {
        Tree source = treeOf(from);
        treeOf(to).become(source);
    }

    public int changes(int from) throws IllegalArgumentException {
        Tree older = treeOf(from);
        theLayer.tell(older, treeOf(1 - from));
        return theLayer.length;
    }

    public int layer(int k) throws IndexOutOfBoundsException {
        if (k < 0 || k >= theLayer.length) {
            throw new IndexOutOfBoundsException("the layer has no such byte");
        }
        return theLayer.byteAt(k);
    }

    public void apply(int tree) throws IllegalArgumentException, IllegalStateException {
        Tree chosen = treeOf(tree);
        trial.become(chosen);
        int next = 0;
        for (int i = 0; i < theLayer.items; i++) {
            next = theLayer.readItem(next, item);
            if (!trial.perform(item)) {
                throw new IllegalStateException("the layer can't be applied");
            }
        }
        chosen.become(trial);
    }

    public boolean same() {
        return tree0.isLike(tree1);
    }

    public int entries(int tree) throws IllegalArgumentException {
        return treeOf(tree).count;
    }

    public int entry(int tree, int i, int what)
            throws IllegalArgumentException, IndexOutOfBoundsException {
        Tree chosen = treeOf(tree);
        if (what < 0 || what > LAST_WHAT) {
            throw new IllegalArgumentException("no such what");
        }
        if (i < 0 || i >= chosen.count) {
            throw new IndexOutOfBoundsException("no such entry");
        }
        return chosen.rows[i].tell(what);
    }

    private Tree treeOf(int tree) {
        if (tree != 0 && tree != 1) {
            throw new IllegalArgumentException("no such tree");
        }
        return tree == 0 ? tree0 : tree1;
    }

    private static int bytesIn(int word) {
        int found = 0;
        for (int k = 0; k < WORD_BYTES; k++) {
            if (byteOf(word, k) != 0) {
                found++;
            }
        }
        return found;
    }

    private static int byteOf(int word, int k) {
        return (word >>> 8 * k) & 255;
    }

    /** The signs of a path; without signs it is none. */
    private static final class Path {
        private final byte[] signs = new byte[MOST_SIGNS];
        private int length;

        boolean isNone() {
            return length == 0;
        }

        void clear() {
            length = 0;
        }

        void append(int sign) {
            if (length < MOST_SIGNS) {
                signs[length] = (byte) sign;
                length++;
            }
        }

        void become(Path other) {
            System.arraycopy(other.signs, 0, signs, 0, MOST_SIGNS);
            length = other.length;
        }

        boolean readSigns(int a, int b, int c) {
            clear();
            appendWord(a);
            appendWord(b);
            appendWord(c);
            if (!isWellFormed()) {
                clear();
            }
            return !isNone();
        }

        private void appendWord(int word) {
            for (int k = 0; k < WORD_BYTES; k++) {
                int sign = byteOf(word, k);
                if (sign != 0) {
                    append(sign);
                }
            }
        }

        private boolean isWellFormed() {
            int inName = 0;
            for (int k = 0; k < length; k++) {
                int sign = signAt(k);
                if (sign == SLASH && inName > 0) {
                    inName = 0;
                } else if (isNameSign(sign) && inName < MOST_NAME_SIGNS) {
                    inName++;
                } else {
                    return false;
                }
            }
            return inName > 0 && names() <= MOST_NAMES;
        }

        private static boolean isNameSign(int sign) {
            return sign >= 'a' && sign <= 'z' || sign >= '0' && sign <= '9';
        }

        /** NONE is less than all signs, so a path that ends is before those that go on. */
        int signAt(int k) {
            return k >= 0 && k < length && k < MOST_SIGNS ? signs[k] : NONE;
        }

        int names() {
            int slashes = 0;
            for (int k = 0; k < length; k++) {
                if (signAt(k) == SLASH) {
                    slashes++;
                }
            }
            return isNone() ? 0 : slashes + 1;
        }

        /** How many signs the path one name shorter has; 0 if there is none. */
        int shorter() {
            for (int k = length - 1; k > 0; k--) {
                if (signAt(k) == SLASH) {
                    return k;
                }
            }
            return 0;
        }

        /** Below, at or above 0 as this path is before, at or behind the other's first signs. */
        int order(Path other, int otherLength) {
            for (int k = 0; k < MOST_SIGNS; k++) {
                int sign = k < otherLength ? other.signAt(k) : NONE;
                if (signAt(k) != sign) {
                    return signAt(k) - sign;
                }
            }
            return 0;
        }

        boolean isAt(Path other) {
            return length == other.length && order(other, length) == 0;
        }

        boolean isBelow(Path upper) {
            return signAt(upper.length) == SLASH && upper.order(this, upper.length) == 0;
        }

        void replaceStart(int startLength, Path start) {
            int newLength = length - startLength + start.length;
            if (startLength > length || newLength > MOST_SIGNS) {
                return;
            }
            System.arraycopy(signs, startLength, signs, start.length, length - startLength);
            System.arraycopy(start.signs, 0, signs, 0, start.length);
            length = newLength;
        }
    }

    /** What a tree has at a path; also an item of the changes, which may be of a kind more. */
    private static final class Entry {
        private final Path path = new Path();
        private int kind;
        private final byte[] bytes = new byte[MOST_BYTES];
        private int size;

        void begin(Path newPath, int newKind) {
            path.become(newPath);
            kind = newKind;
            size = 0;
        }

        void append(int value) {
            if (size < MOST_BYTES) {
                bytes[size] = (byte) value;
                size++;
            }
        }

        void appendWord(int word) {
            for (int k = 0; k < WORD_BYTES; k++) {
                int value = byteOf(word, k);
                if (value != 0) {
                    append(value);
                }
            }
        }

        void become(Entry other) {
            path.become(other.path);
            kind = other.kind;
            System.arraycopy(other.bytes, 0, bytes, 0, MOST_BYTES);
            size = other.size;
        }

        int byteAt(int k) {
            return k >= 0 && k < size && k < MOST_BYTES ? bytes[k] & 255 : NONE;
        }

        boolean hasLikeContent(Entry other) {
            if (kind != other.kind || size != other.size) {
                return false;
            }
            for (int k = 0; k < size; k++) {
                if (byteAt(k) != other.byteAt(k)) {
                    return false;
                }
            }
            return true;
        }

        int tell(int what) {
            if (what >= BYTE_WHAT) {
                return byteAt(what - BYTE_WHAT);
            }
            if (what >= SIGN_WHAT) {
                return path.signAt(what - SIGN_WHAT);
            }
            return what == 0 ? kind : what == 1 ? path.names() : size;
        }
    }

    /** Entries in the order of their paths; the rows behind the last one wait to be used. */
    private static final class Tree {
        private final Entry[] rows = new Entry[MOST_ENTRIES];
        private int count;

        Tree() {
            for (int i = 0; i < MOST_ENTRIES; i++) {
                rows[i] = new Entry();
            }
        }

        boolean isFull() {
            return count >= MOST_ENTRIES;
        }

        int find(Path path) {
            return findStart(path, path.length);
        }

        /** The index of the entry whose path is the first signs of this one, or NONE. */
        private int findStart(Path path, int length) {
            for (int i = 0; i < count; i++) {
                int order = rows[i].path.order(path, length);
                if (order >= 0) {
                    return order == 0 ? i : NONE;
                }
            }
            return NONE;
        }

        int kindOf(Path path) {
            int at = find(path);
            return at == NONE ? NONE : rows[at].kind;
        }

        /** Whether the path one name shorter, if there is one, is a directory. */
        boolean hasPlaceFor(Path path) {
            int shorter = path.shorter();
            if (shorter == 0) {
                return true;
            }
            int at = findStart(path, shorter);
            return at != NONE && rows[at].kind == DIRECTORY;
        }

        /** The item's path becomes an entry like the item, unless it would be one too many. */
        boolean put(Entry item) {
            int at = find(item.path);
            if (at == NONE) {
                at = openRow(item.path);
            }
            if (at == NONE) {
                return false;
            }
            rows[at].become(item);
            return true;
        }

        private int openRow(Path path) {
            if (isFull()) {
                return NONE;
            }
            rows[count].begin(path, NONE);
            count++;
            return sinkRow(count - 1);
        }

        /** Brings a row to its place among those before it, which are in order. */
        private int sinkRow(int from) {
            Entry row = rows[from];
            int to = from;
            for (; to > 0 && rows[to - 1].path.order(row.path, row.path.length) > 0; to--) {
                rows[to] = rows[to - 1];
            }
            rows[to] = row;
            return to;
        }

        /** All entries below the path go, and, if asked, the one there. */
        void drop(Path path, boolean alsoThere) {
            int kept = 0;
            for (int i = 0; i < count; i++) {
                Entry row = rows[i];
                boolean goes = row.path.isBelow(path) || alsoThere && row.path.isAt(path);
                if (!goes) {
                    rows[i] = rows[kept];
                    rows[kept] = row;
                    kept++;
                }
            }
            count = kept;
        }

        boolean canShift(Path from, Path to) {
            return find(from) != NONE && find(to) == NONE && !to.isBelow(from)
                    && hasPlaceFor(to) && deepest(from) - from.names() + to.names() <= MOST_NAMES;
        }

        /** The most names that a path there or below it has. */
        private int deepest(Path upper) {
            int most = upper.names();
            for (int i = 0; i < count; i++) {
                if (rows[i].path.isBelow(upper)) {
                    most = Math.max(most, rows[i].path.names());
                }
            }
            return most;
        }

        void shift(Path from, Path to) {
            for (int i = 0; i < count; i++) {
                Path path = rows[i].path;
                if (path.isAt(from) || path.isBelow(from)) {
                    path.replaceStart(from.length, to);
                }
            }
            for (int i = 1; i < count; i++) {
                sinkRow(i);
            }
        }

        void become(Tree other) {
            for (int i = 0; i < other.count; i++) {
                rows[i].become(other.rows[i]);
            }
            count = other.count;
        }

        boolean isLike(Tree other) {
            if (count != other.count) {
                return false;
            }
            for (int i = 0; i < count; i++) {
                Entry mine = rows[i];
                Entry theirs = other.rows[i];
                if (!mine.path.isAt(theirs.path) || !mine.hasLikeContent(theirs)) {
                    return false;
                }
            }
            return true;
        }

        /** Does an item of a layer; false if it can't be done. */
        boolean perform(Entry item) {
            switch (item.kind) {
                case DIRECTORY:
                    return hasPlaceFor(item.path) && put(item);
                case FILE:
                    if (!hasPlaceFor(item.path) || !put(item)) {
                        return false;
                    }
                    drop(item.path, false);
                    return true;
                case GONE:
                    if (find(item.path) == NONE) {
                        return false;
                    }
                    drop(item.path, true);
                    return true;
                case EMPTIED:
                    if (kindOf(item.path) != DIRECTORY) {
                        return false;
                    }
                    drop(item.path, false);
                    return true;
                default:
                    return false;
            }
        }
    }

    /** The changes from a tree to another one, item behind item. */
    private static final class Layer {
        private final byte[] bytes = new byte[MOST_LAYER];
        private int length;
        private int items;

        int byteAt(int k) {
            return k >= 0 && k < length && k < MOST_LAYER ? bytes[k] & 255 : 0;
        }

        private void append(int value) {
            if (length < MOST_LAYER) {
                bytes[length] = (byte) value;
                length++;
            }
        }

        private void writeItem(int kind, Entry entry) {
            int size = kind == FILE ? entry.size : 0;
            append(kind);
            append(entry.path.length);
            for (int k = 0; k < entry.path.length; k++) {
                append(entry.path.signAt(k));
            }
            append(size & 255);
            append(size >>> 8);
            for (int k = 0; k < size; k++) {
                append(entry.byteAt(k));
            }
            items++;
        }

        /** Reads the item that begins at a byte, and answers where the next one begins. */
        int readItem(int from, Entry item) {
            int signs = byteAt(from + 1);
            int behindPath = from + 2 + signs;
            int size = byteAt(behindPath) | byteAt(behindPath + 1) << 8;
            item.kind = byteAt(from);
            item.path.clear();
            for (int k = 0; k < signs; k++) {
                item.path.append(byteAt(from + 2 + k));
            }
            item.size = 0;
            for (int k = 0; k < size; k++) {
                item.append(byteAt(behindPath + 2 + k));
            }
            return behindPath + 2 + size;
        }

        void tell(Tree older, Tree newer) {
            length = 0;
            items = 0;
            int emptied = NONE;
            int i = 0;
            int j = 0;
            for (int step = 0; step < MOST_ITEMS && (i < older.count || j < newer.count); step++) {
                int order = orderOfRows(older, i, newer, j);
                if (order > 0) {
                    writeItem(newer.rows[j].kind, newer.rows[j]);
                    j++;
                } else if (order < 0) {
                    tellGone(older, i, newer, emptied);
                    i++;
                } else {
                    if (isEmptied(older, i, newer, j)) {
                        emptied = i;
                    }
                    tellKept(older.rows[i], newer.rows[j], emptied == i);
                    i++;
                    j++;
                }
            }
        }

        /** The order of the next paths of both trees, one that has no more going last. */
        private static int orderOfRows(Tree older, int i, Tree newer, int j) {
            if (i >= older.count) {
                return 1;
            }
            if (j >= newer.count) {
                return -1;
            }
            Path path = newer.rows[j].path;
            return older.rows[i].path.order(path, path.length);
        }

        private void tellKept(Entry old, Entry now, boolean emptied) {
            if (emptied) {
                writeItem(EMPTIED, now);
            } else if (!now.hasLikeContent(old)) {
                writeItem(now.kind, now);
            }
        }

        /**
         * Nothing right below an emptied directory is in the newer tree, so no other directory is
         * emptied before its entries end, and the last one emptied is the only one to look at.
         */
        private void tellGone(Tree older, int i, Tree newer, int emptied) {
            Entry old = older.rows[i];
            if (emptied != NONE && old.path.isBelow(older.rows[emptied].path)) {
                return;
            }
            if (newer.hasPlaceFor(old.path)) {
                writeItem(GONE, old);
            }
        }

        private static boolean isEmptied(Tree older, int i, Tree newer, int j) {
            if (older.rows[i].kind != DIRECTORY || newer.rows[j].kind != DIRECTORY) {
                return false;
            }
            Path upper = older.rows[i].path;
            int rightBelow = 0;
            for (int k = i + 1; k < older.count && older.rows[k].path.isBelow(upper); k++) {
                Path path = older.rows[k].path;
                if (path.shorter() == upper.length) {
                    if (newer.find(path) != NONE) {
                        return false;
                    }
                    rightBelow++;
                }
            }
            return rightBelow >= 2;
        }
    }
}
