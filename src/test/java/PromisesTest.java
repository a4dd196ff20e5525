/** For each promise of the document: ordinary inputs, the edges that it names, and wrong inputs. */
public final class PromisesTest extends Trials {
    private static void newObject() {
        TreeChanges x = new TreeChanges();
        due("new entries(0)", x.entries(0), 0);
        due("new entries(1)", x.entries(1), 0);
        due("new same", x.same(), true);
        due("new layer(0)", answer(() -> x.layer(0)), IOOBE);
        due("new directory", outcome(() -> x.directory(0)), ISE);
        due("new file", outcome(() -> x.file(0, 5)), ISE);
        due("new add", outcome(() -> x.add(0, 5)), ISE);
        due("new remove", outcome(() -> x.remove(0)), ISE);
        due("new move", outcome(() -> x.move(0, 'a', 0, 0)), ISE);
        due("new apply", outcome(() -> x.apply(0)), DONE);
        due("new changes", x.changes(1), 0);
        due("NONE", TreeChanges.NONE, -1);
        TreeChanges y = new TreeChanges();
        grow(x, 0, "a");
        due("another object is its own", y.entries(0), 0);
    }

    private static void paths() {
        String[] good = {"a", "z", "0", "9", "abcd", "a/b", "a/b/c/d", "aaaa/bbbb/cc", "ab/cd/ef/ghi",
            "0/9/a/z", "aaa/bbb/cccc"};
        String[] bad = {"", "/", "/a", "a/", "a//b", "abcde", "a/bcdef", "a/b/c/d/e", "A", "a/Z", "a.b",
            "a:", "a`", "a{", "a b", "-", "a/b/c/d/", "\u00e1", "\u00ff", "a\u00ff", "a\u00af", "a\u0001"};
        for (String signs : good) {
            TreeChanges x = new TreeChanges();
            due("path " + signs, path(x, signs), true);
        }
        for (String signs : bad) {
            TreeChanges x = new TreeChanges();
            path(x, "a");
            due("path " + signs, path(x, signs), false);
            due("no path after " + signs, outcome(() -> x.directory(0)), ISE);
            due("nothing made after " + signs, x.entries(0), 0);
        }
    }

    private static void zeroBytesOfPaths() {
        TreeChanges x = new TreeChanges();
        due("zeros between", x.path('a' << 8, '/' << 24, 'b' << 16), true);
        due("its short path is no directory", outcome(() -> x.file(0, 0)), ISE);
        grow(x, 0, "a");
        x.path('a' << 8, '/' << 24, 'b' << 16);
        x.file(0, 0);
        due("zeros are left out", list(x, 0), "a a/b=");
        due("a name over two ints", x.path('c' << 16, 'd', 'e' << 24), true);
        x.directory(1);
        due("the name", list(x, 1), "cde");
        due("highest byte is no sign of its own", x.path(0x80000061, 0, 0), false);
    }

    private static void pathStays() {
        TreeChanges x = pair("a a/x=1", "");
        path(x, "a");
        due("move", outcome(() -> x.move(0, 'b', 0, 0)), DONE);
        due("the path is still a", outcome(() -> x.directory(0)), DONE);
        due("both", list(x, 0), "a b b/x=1");
        x.remove(0);
        due("the path is there after remove", outcome(() -> x.file(0, 'q')), DONE);
        due("bad move signs", outcome(() -> x.move(0, '/', 0, 0)), IAE);
        due("the path stays after them", outcome(() -> x.add(0, 'r')), DONE);
        due("made", list(x, 0), "a=qr b b/x=1");
    }

    private static void directories() {
        TreeChanges x = new TreeChanges();
        due("a/b first", directory(x, 0, "a/b"), ISE);
        due("a", directory(x, 0, "a"), DONE);
        due("a again", directory(x, 0, "a"), ISE);
        due("a/b", directory(x, 0, "a/b"), DONE);
        due("a/b/c/d too early", directory(x, 0, "a/b/c/d"), ISE);
        due("a/b/c", directory(x, 0, "a/b/c"), DONE);
        due("a/b/c/d", directory(x, 0, "a/b/c/d"), DONE);
        due("file f", file(x, 0, "f", "1"), DONE);
        due("f is a file", directory(x, 0, "f"), ISE);
        due("f/g is below a file", directory(x, 0, "f/g"), ISE);
        due("aa/b is not below a", directory(x, 0, "aa/b"), ISE);
        due("list", list(x, 0), "a a/b a/b/c a/b/c/d f=1");
        due("the other tree is its own", list(x, 1), "");
        for (int tree : NO_TREES) {
            due("directory of tree " + tree, directory(x, tree, "n"), IAE);
        }
        path(x, "");
        due("no tree ahead of no path", outcome(() -> x.directory(2)), IAE);
    }

    private static void fortyDirectories() {
        TreeChanges x = pair(numbered("d", 0, 39, ""), "");
        due("40th", directory(x, 0, "e"), DONE);
        due("41st", directory(x, 0, "g"), UOE);
        due("one that is there, ahead of full", directory(x, 0, "e"), ISE);
        due("one without a directory, ahead of full", directory(x, 0, "g/h"), ISE);
        path(x, "");
        due("no path, ahead of full", outcome(() -> x.directory(0)), ISE);
        due("count", x.entries(0), 40);
        due("other tree has room", directory(x, 1, "g"), DONE);
        due("no tree ahead of full", directory(x, 2, "g"), IAE);
        remove(x, 0, "e");
        due("room again", directory(x, 0, "g"), DONE);
    }

    private static void files() {
        TreeChanges x = new TreeChanges();
        due("a/b first", file(x, 0, "a/b", "1"), ISE);
        due("a", file(x, 0, "a", "wxyz"), DONE);
        due("a anew", file(x, 0, "a", "q"), DONE);
        due("a list", list(x, 0), "a=q");
        due("a/b below a file", file(x, 0, "a/b", "1"), ISE);
        due("d", directory(x, 0, "d"), DONE);
        due("d is a directory", file(x, 0, "d", "1"), ISE);
        due("d/f", file(x, 0, "d/f", ""), DONE);
        due("list", list(x, 0), "a=q d d/f=");
        path(x, "a");
        x.file(0, 0xff000080);
        due("two bytes", x.entry(0, 0, 2), 2);
        due("byte 0", x.entry(0, 0, 16), 128);
        due("byte 1", x.entry(0, 0, 17), 255);
        due("byte 2", x.entry(0, 0, 18), -1);
        x.file(0, 0);
        due("no bytes", x.entry(0, 0, 2), 0);
        due("no byte 0", x.entry(0, 0, 16), -1);
        for (int tree : NO_TREES) {
            due("file of tree " + tree, file(x, tree, "n", "1"), IAE);
        }
        path(x, "");
        due("no path", outcome(() -> x.file(0, 1)), ISE);
        due("no tree ahead of no path", outcome(() -> x.file(-1, 1)), IAE);
        due("list at the end", list(x, 0), "a= d d/f=");
    }

    private static void fortyFiles() {
        TreeChanges x = pair(numbered("f", 0, 39, "=1"), "");
        due("40th", file(x, 0, "e", "2"), DONE);
        due("41st", file(x, 0, "g", "3"), UOE);
        due("one that is there", file(x, 0, "e", "4"), DONE);
        due("below a file, ahead of full", file(x, 0, "e/h", "5"), ISE);
        due("no tree ahead of full", file(x, 2, "g", "3"), IAE);
        due("count", x.entries(0), 40);
        due("the first", x.entry(0, 0, 16), (int) '4');
        remove(x, 0, "e");
        due("directory as 40th", directory(x, 0, "e"), DONE);
        due("a directory, ahead of full", file(x, 0, "e", "6"), ISE);
    }

    private static void adding() {
        TreeChanges x = pair("a=ab d", "");
        due("two more", add(x, 0, "a", "cd"), DONE);
        due("list", list(x, 0), "a=abcd d");
        due("four more", add(x, 0, "a", "efgh"), DONE);
        due("four more", add(x, 0, "a", "ijkl"), DONE);
        due("three more", add(x, 0, "a", "mno"), DONE);
        due("17", add(x, 0, "a", "pq"), UOE);
        due("nothing added", list(x, 0), "a=abcdefghijklmno d");
        x.path('a', 0, 0);
        due("16, zeros left out", outcome(() -> x.add(0, 'p' << 16)), DONE);
        due("none more", add(x, 0, "a", ""), DONE);
        due("one more", add(x, 0, "a", "q"), UOE);
        for (int bytes : new int[] {1, 0x80, 0x100, 0x8000, 0x800000, 0x80000000, -1}) {
            due("more by " + bytes, outcome(() -> x.add(0, bytes)), UOE);
        }
        due("16 bytes", x.entry(0, 0, 2), 16);
        due("the last", x.entry(0, 0, 31), (int) 'p');
        due("a directory", add(x, 0, "d", "1"), ISE);
        due("nothing there", add(x, 0, "n", "1"), ISE);
        due("nothing in the other tree", add(x, 1, "a", "1"), ISE);
        path(x, "");
        due("no path", outcome(() -> x.add(0, 1)), ISE);
        for (int tree : NO_TREES) {
            due("add to tree " + tree, outcome(() -> x.add(tree, 1)), IAE);
        }
        due("no tree ahead of too many", add(x, 2, "a", "q"), IAE);
        due("list at the end", list(x, 0), "a=abcdefghijklmnop d");
        due("a file begins anew", file(x, 0, "a", "z"), DONE);
        due("and has it alone", list(x, 0), "a=z d");
    }

    private static void removing() {
        String all = "a a/b a/b/c=1 a0=2 aa aa/b=3 b=4";
        TreeChanges x = pair(all, all);
        due("nothing there", remove(x, 0, "a/c"), ISE);
        due("a", remove(x, 0, "a"), DONE);
        due("a is gone with all below it", list(x, 0), "a0=2 aa aa/b=3 b=4");
        due("a again", remove(x, 0, "a"), ISE);
        due("a/b went", remove(x, 0, "a/b"), ISE);
        due("b", remove(x, 0, "b"), DONE);
        due("aa/b", remove(x, 0, "aa/b"), DONE);
        due("what stays", list(x, 0), "a0=2 aa");
        due("the other tree", list(x, 1), all);
        path(x, "");
        due("no path", outcome(() -> x.remove(0)), ISE);
        for (int tree : NO_TREES) {
            due("remove from tree " + tree, outcome(() -> x.remove(tree)), IAE);
        }
        due("made anew without bytes", file(x, 0, "b", ""), DONE);
        due("b", list(x, 0), "a0=2 aa b=");
    }

    private static void moving() {
        TreeChanges x = pair("a a/b a/b/c=1 a/d=2 ab=3 k", "a");
        due("to z", move(x, 0, "a", "z"), DONE);
        due("z", list(x, 0), "ab=3 k z z/b z/b/c=1 z/d=2");
        due("below k", move(x, 0, "z", "k/a"), DONE);
        due("k/a", list(x, 0), "ab=3 k k/a k/a/b k/a/b/c=1 k/a/d=2");
        due("up again", move(x, 0, "k/a/b", "0"), DONE);
        due("0", list(x, 0), "0 0/c=1 ab=3 k k/a k/a/d=2");
        due("a file", move(x, 0, "ab", "0/b"), DONE);
        due("0/b", list(x, 0), "0 0/b=3 0/c=1 k k/a k/a/d=2");
        due("the other tree", list(x, 1), "a");
        TreeChanges y = pair("a=1 b=2", "");
        due("a behind b", move(y, 0, "a", "c"), DONE);
        due("b c", list(y, 0), "b=2 c=1");
        TreeChanges z = pair("d " + numbered("d/", 0, 38, "=1") + " e", "");
        due("in a full tree", move(z, 0, "d", "e/f"), DONE);
        due("e/f", list(z, 0), "e e/f " + numbered("e/f/", 0, 38, "=1"));
    }

    private static void wrongMoves() {
        String all = "a a/b a/b/c a/b/c/d=1 ab=3 k k/l k/l/m";
        TreeChanges x = pair(all, "");
        due("to itself", move(x, 0, "a", "a"), ISE);
        due("something there", move(x, 0, "a", "ab"), ISE);
        due("something there, a directory", move(x, 0, "ab", "k"), ISE);
        due("below itself", move(x, 0, "a", "a/z"), ISE);
        due("far below itself", move(x, 0, "a/b", "a/b/c/z"), ISE);
        due("no directory", move(x, 0, "ab", "n/o"), ISE);
        due("below a file", move(x, 0, "k", "ab/o"), ISE);
        due("five names", move(x, 0, "a", "k/a"), ISE);
        due("six names", move(x, 0, "a/b", "k/l/m/b"), ISE);
        due("nothing there", move(x, 0, "n", "o"), ISE);
        due("no signs", move(x, 0, "a", ""), IAE);
        due("signs that are no path", move(x, 0, "a", "a/b/c/d/e"), IAE);
        due("no signs, ahead of nothing there", move(x, 0, "n", "/"), IAE);
        path(x, "");
        due("no signs, ahead of no path", outcome(() -> x.move(0, 0, 0, 0)), IAE);
        due("no path", outcome(() -> x.move(0, 'n', 0, 0)), ISE);
        for (int tree : NO_TREES) {
            due("move in tree " + tree, move(x, tree, "a", "n"), IAE);
        }
        due("nothing changed", list(x, 0), all);
        due("four names", move(x, 0, "a/b/c", "k/l/m/c"), ISE);
        due("just four names", move(x, 0, "a/b/c", "k/l/c"), DONE);
        due("moved", list(x, 0), "a a/b ab=3 k k/l k/l/c k/l/c/d=1 k/l/m");
    }

    private static TreeChanges withLongPath() {
        TreeChanges x = pair("a a/b a/b/c a/b/c/dddd=1", "");
        due("cccc", move(x, 0, "a/b/c", "a/b/cccc"), DONE);
        due("bbbb", move(x, 0, "a/b", "a/bbbb"), DONE);
        due("aaaa", move(x, 0, "a", "aaaa"), DONE);
        return x;
    }

    private static void longPaths() {
        TreeChanges x = withLongPath();
        due("thirteen signs are told",
                list(x, 0), "aaaa aaaa/bbbb aaaa/bbbb/ccc* aaaa/bbbb/ccc*=1");
        due("four names", x.entry(0, 3, 1), 4);
        due("sign 12", x.entry(0, 3, 15), (int) 'c');
        due("no sign 13", x.entry(0, 3, 16), (int) '1');
        due("layer", changes(x, 0),
                "<3><4>aaaa<0><0>");
        due("layer back", changes(x, 1), "<1><4>aaaa<0><0><1><9>aaaa/bbbb<0><0>"
                + "<1><14>aaaa/bbbb/cccc<0><0><2><19>aaaa/bbbb/cccc/dddd<1><0>1");
        x.apply(1);
        due("applied", x.same(), true);
        due("entries", x.entries(1), 4);
        due("down again", move(x, 0, "aaaa", "a"), DONE);
        due("twelve and more", list(x, 0), "a a/bbbb a/bbbb/cccc a/bbbb/cccc/d*=1");
    }

    private static void copying() {
        TreeChanges x = pair("a a/b=12", "c=3 d=4 e=5");
        due("0 to 1", outcome(() -> x.copy(0, 1)), DONE);
        due("1", list(x, 1), "a a/b=12");
        due("same", x.same(), true);
        due("a/b in 1", add(x, 1, "a/b", "3"), DONE);
        due("0 is its own", list(x, 0), "a a/b=12");
        due("1 to 0", outcome(() -> x.copy(1, 0)), DONE);
        due("0", list(x, 0), "a a/b=123");
        due("to itself", outcome(() -> x.copy(0, 0)), DONE);
        due("0 stays", list(x, 0), "a a/b=123");
        for (int tree : NO_TREES) {
            due("copy from " + tree, outcome(() -> x.copy(tree, 0)), IAE);
            due("copy to " + tree, outcome(() -> x.copy(1, tree)), IAE);
        }
        due("nothing changed", list(x, 0) + list(x, 1), "a a/b=123a a/b=123");
        due("the path stays", outcome(() -> x.add(0, '4')), DONE);
    }

    /** Each row: a tree, another one, and the changes from the one to the other. */
    private static final String[][] CHANGES = {
        {"", "", ""},
        {"a b=1", "a b=1", ""},
        {"", "a", "<1><1>a<0><0>"},
        {"", "a=", "<2><1>a<0><0>"},
        {"", "a=xyz", "<2><1>a<3><0>xyz"},
        {"", "a a/b a/b/c=1 d", "<1><1>a<0><0><1><3>a/b<0><0><2><5>a/b/c<1><0>1<1><1>d<0><0>"},
        {"a=1", "a=2", "<2><1>a<1><0>2"},
        {"a=1", "a=12", "<2><1>a<2><0>12"},
        {"a=12", "a=1", "<2><1>a<1><0>1"},
        {"a", "a=1", "<2><1>a<1><0>1"},
        {"a", "a=", "<2><1>a<0><0>"},
        {"a=", "a", "<1><1>a<0><0>"},
        {"a=1", "a", "<1><1>a<0><0>"},
        {"a=1", "a a/b=2", "<1><1>a<0><0><2><3>a/b<1><0>2"},
        {"a a/b=2 a/c=3", "a=1", "<2><1>a<1><0>1"},
        {"a=1", "", "<3><1>a<0><0>"},
        {"a=1 b=2 c", "", "<3><1>a<0><0><3><1>b<0><0><3><1>c<0><0>"},
        {"a a/b=1", "", "<3><1>a<0><0>"},
        {"a a/b=1 a/c=2", "", "<3><1>a<0><0>"},
        {"a a/b=1", "a", "<3><3>a/b<0><0>"},
        {"a a/b=1 a/c=2", "a", "<4><1>a<0><0>"},
        {"a a/b a/c a/d=1", "a", "<4><1>a<0><0>"},
        {"a a/b=1 a/c=2", "a a/c=2", "<3><3>a/b<0><0>"},
        {"a a/b=1 a/c=2 a/d=3", "a a/c", "<3><3>a/b<0><0><1><3>a/c<0><0><3><3>a/d<0><0>"},
        {"a a/b=1 a/c=2", "a a/d=3", "<4><1>a<0><0><2><3>a/d<1><0>3"},
        {"a a/b=1 a/c=2", "a a/a=3 a/d", "<4><1>a<0><0><2><3>a/a<1><0>3<1><3>a/d<0><0>"},
        {"a a/b a/b/c=1 a/b/d=2", "a", "<3><3>a/b<0><0>"},
        {"a a/b a/b/c=1 a/b/d=2", "a a/b", "<4><3>a/b<0><0>"},
        {"a a/b a/b/c=1 a/b/d=2 a/e=3", "a", "<4><1>a<0><0>"},
        {"a a/b a/b/c=1 a/b/d=2 a/e=3", "a a/b", "<4><3>a/b<0><0><3><3>a/e<0><0>"},
        {"a a/b a/b/c a/b/c/d=1 a/b/c/e=2", "a a/b", "<3><5>a/b/c<0><0>"},
        {"a a/b a/b/c=1 a/b/d=2", "a a/b=3", "<2><3>a/b<1><0>3"},
        {"a a/b=1 a/c=2 a0=3", "a", "<4><1>a<0><0><3><2>a0<0><0>"},
        {"a a/b=1 a/c=2 b b/b=1", "a b", "<4><1>a<0><0><3><3>b/b<0><0>"},
        {"a a/b=1 a/c=2 b b/b=1 b/c=2", "a b", "<4><1>a<0><0><4><1>b<0><0>"},
        {"a0=1", "a a/b=2 aa=3", "<1><1>a<0><0><2><3>a/b<1><0>2<3><2>a0<0><0><2><2>aa<1><0>3"},
    };

    private static void changing() {
        for (String[] row : CHANGES) {
            TreeChanges x = pair(row[0], row[1]);
            due("changes from " + row[0] + " to " + row[1], changes(x, 0), row[2]);
            due("tree 0 stays", list(x, 0), row[0]);
            due("tree 1 stays", list(x, 1), row[1]);
            TreeChanges y = pair(row[1], row[0]);
            due("changes of 1 from " + row[0] + " to " + row[1], changes(y, 1), row[2]);
        }
        TreeChanges x = pair("a=1", "b=2");
        int length = x.changes(0);
        for (int tree : NO_TREES) {
            due("changes from " + tree, answer(() -> x.changes(tree)), IAE);
        }
        due("the layer stays", layer(x, length), "<3><1>a<0><0><2><1>b<1><0>2");
        remove(x, 0, "a");
        due("it stays when a tree changes", layer(x, length), "<3><1>a<0><0><2><1>b<1><0>2");
        due("a shorter one", changes(x, 0), "<2><1>b<1><0>2");
    }

    private static void biggestLayer() {
        TreeChanges x = new TreeChanges();
        for (int i = 0; i < 40; i++) {
            String name = "a" + (10 + i);
            file(x, 0, name, "1");
            file(x, 1, "b" + name, "abcd");
        }
        due("forty gone and forty files", x.changes(0), 40 * 7 + 40 * 12);
        due("the last byte", x.layer(40 * 19 - 1), (int) 'd');
        due("can't be applied to the newer one", outcome(() -> x.apply(1)), ISE);
        due("can be to the older one", outcome(() -> x.apply(0)), DONE);
        due("same", x.same(), true);
    }

    /** Forty entries in each tree, with long paths and, in tree 1, full files. */
    private static TreeChanges withLongestPaths() {
        TreeChanges x = pair("a a/b a/b/c a/b/c/mmmm=", "");
        x.copy(0, 1);
        for (int i = 10; i < 46; i++) {
            file(x, 0, "a/b/c/00" + i, "1");
            file(x, 1, "a/b/c/zz" + i, "abcd");
            x.add(1, word("efgh", 0));
            x.add(1, word("ijkl", 0));
            x.add(1, word("mno\u00ff", 0));
        }
        for (int tree = 0; tree < 2; tree++) {
            move(x, tree, "a/b/c", "a/b/cccc");
            move(x, tree, "a/b", "a/bbbb");
            move(x, tree, "a", "aaaa");
        }
        return x;
    }

    private static void longestLayer() {
        TreeChanges x = withLongestPaths();
        due("entries", x.entries(0) + x.entries(1), 80);
        int length = x.changes(0);
        due("length", length, 36 * (4 + 19) + 36 * (4 + 19 + 16));
        due("the first kind", x.layer(0), 3);
        due("the last kind", x.layer(length - 39), 2);
        due("the last byte", x.layer(length - 1), 255);
        due("behind it", answer(() -> x.layer(length)), IOOBE);
        due("applied", outcome(() -> x.apply(0)), DONE);
        due("same", x.same(), true);
    }

    private static void emptiedFullTree() {
        TreeChanges x = pair("d " + numbered("d/", 0, 39, "=1"), "d");
        due("EMPTIED alone", changes(x, 0), "<4><1>d<0><0>");
        x.apply(0);
        due("d alone", list(x, 0), "d");
        TreeChanges y = pair(numbered("d", 0, 40, ""), numbered("d", 0, 40, ""));
        due("no changes of full trees", changes(y, 0), "");
        due("same full trees", y.same(), true);
    }

    private static void layerBytes() {
        TreeChanges x = pair("", "a=1");
        path(x, "a");
        x.file(1, 0xff7f8001);
        due("length", x.changes(0), 9);
        int[] want = {2, 1, 'a', 4, 0, 1, 0x80, 0x7f, 0xff};
        for (int k = 0; k < want.length; k++) {
            due("layer byte " + k, x.layer(k), want[k]);
        }
        for (int k : new int[] {-1, 9, 10, 3000, Integer.MIN_VALUE, Integer.MAX_VALUE}) {
            due("layer(" + k + ")", answer(() -> x.layer(k)), IOOBE);
        }
    }

    private static void applying() {
        for (String[] row : CHANGES) {
            TreeChanges x = pair(row[0], row[1]);
            x.changes(0);
            due("applied to " + row[0], outcome(() -> x.apply(0)), DONE);
            due("it is now", list(x, 0), row[1]);
            due("same", x.same(), true);
            due("no changes more", changes(x, 0), "");
        }
        TreeChanges x = pair("", "a");
        x.changes(0);
        for (int tree : NO_TREES) {
            due("apply to " + tree, outcome(() -> x.apply(tree)), IAE);
        }
        due("twice", outcome(() -> x.apply(0)) + outcome(() -> x.apply(0)), DONE + DONE);
        due("the layer is still there", layer(x, 5), "<1><1>a<0><0>");
    }

    /** Applies the changes from one tree to another one to a third one. */
    private static String applied(String older, String newer, String third) {
        TreeChanges x = pair(older, newer);
        x.changes(0);
        while (x.entries(0) > 0) {
            remove(x, 0, pathOf(x, 0, 0));
        }
        if (!third.isEmpty()) {
            grow(x, 0, third);
        }
        String got = outcome(() -> x.apply(0));
        if (!got.equals(DONE)) {
            due("a tree that it can't be applied to", list(x, 0), third);
            return got;
        }
        return list(x, 0);
    }

    private static void applyingElsewhere() {
        due("DIRECTORY on a directory", applied("", "a", "a a/b=1"), "a a/b=1");
        due("DIRECTORY on a file", applied("", "a", "a=1 b=2"), "a b=2");
        due("DIRECTORY on a file, byteless", applied("", "a a/b", "a=1"), "a a/b");
        due("DIRECTORY without one", applied("a", "a a/b", ""), ISE);
        due("DIRECTORY below a file", applied("a", "a a/b", "a=1"), ISE);
        due("FILE on a file", applied("", "a=1", "a=23"), "a=1");
        due("FILE on a directory", applied("", "a=1", "a a/b a/b/c=2 a0=3"), "a=1 a0=3");
        due("FILE without a directory", applied("a", "a a/b=1", "b"), ISE);
        due("FILE below a file", applied("a", "a a/b=1", "a=1"), ISE);
        String emptied = "a a/b=1 a/c=2";
        due("EMPTIED", applied(emptied, "a", "a a/d a/d/e=1 a0=1"), "a a0=1");
        due("EMPTIED without entries", applied(emptied, "a", "a"), "a");
        due("EMPTIED of nothing", applied(emptied, "a", "b"), ISE);
        due("EMPTIED of a file", applied(emptied, "a", "a=1"), ISE);
        due("GONE", applied("a=1", "", "a a/b a/b/c=1 a0=2"), "a0=2");
        due("GONE below", applied("a a/b=1", "a", "a a/b a/b/c=1 a/d=2"), "a a/d=2");
        due("GONE of nothing", applied("a=1", "", "b"), ISE);
        due("the first items are undone", applied("b=1 c=1", "a=5 b=2", "b=3"), ISE);
        due("in order", applied("c=1", "a a/b=1 d=2", "a=7 c"), "a a/b=1 d=2");
    }

    private static void applyingToFullTrees() {
        String forty = numbered("m", 0, 40, "=1");
        due("DIRECTORY as 41st", applied("", "a", forty), ISE);
        due("FILE as 41st", applied("", "a=1", forty), ISE);
        due("FILE as 41st ahead of what goes", applied("z=1", "a=1", numbered("m", 0, 39, "=1") + " z=2"), ISE);
        String rest = numbered("m", 1, 39, "=1");
        due("DIRECTORY for a file", applied("", "m10", forty), "m10 " + rest);
        due("FILE for a file", applied("", "m10=2", forty), "m10=2 " + rest);
        due("FILE for a directory", applied("", "m10=2", "m10 " + rest), "m10=2 " + rest);
        due("40th", applied("", "a", rest), "a " + rest);
        due("GONE makes room", applied("a=1", "b=1", "a=2 " + rest), "b=1 " + rest);
        String inside = numbered("d/", 0, 39, "=1");
        due("EMPTIED makes room", applied("d d/1=1 d/2=1", "d d/3=1", "d " + inside), "d d/3=1");
        due("FILE makes room", applied("", "d=1 e=1", "d " + inside), "d=1 e=1");
    }

    private static void sameness() {
        String[] all = {"", "a", "a=", "a=1", "a=2", "a=11", "b", "a a/b", "a b", "a a/b=", "a0"};
        for (String one : all) {
            for (String other : all) {
                due("same of " + one + " and " + other, pair(one, other).same(), one.equals(other));
            }
        }
        due("grown in another order", pair("a a/b=1 c=2", "c=2 a a/b=1").same(), true);
        TreeChanges x = withLongPath();
        x.copy(0, 1);
        due("long paths", x.same(), true);
        move(x, 1, "aaaa", "aaab");
        due("other long paths", x.same(), false);
        TreeChanges y = pair("a=12", "a=1");
        due("less bytes", y.same(), false);
        add(y, 1, "a", "2");
        due("as many", y.same(), true);
    }

    private static void counting() {
        TreeChanges x = pair("a a/b=1 c", "d");
        due("three", x.entries(0), 3);
        due("one", x.entries(1), 1);
        for (int tree : NO_TREES) {
            due("entries of " + tree, answer(() -> x.entries(tree)), IAE);
        }
    }

    private static void entryWhats() {
        TreeChanges x = pair("ab ab/c=xy", "");
        int[] directory = {1, 1, 0, 'a', 'b'};
        int[] file = {2, 2, 2, 'a', 'b', '/', 'c'};
        for (int what = 0; what <= 31; what++) {
            int ofFile = what == 16 ? 'x' : what == 17 ? 'y' : what < file.length ? file[what] : -1;
            due("directory's " + what, x.entry(0, 0, what), what < directory.length ? directory[what] : -1);
            due("file's " + what, x.entry(0, 1, what), ofFile);
        }
        for (int what : new int[] {-1, 32, 33, Integer.MIN_VALUE, Integer.MAX_VALUE}) {
            due("what " + what, answer(() -> x.entry(0, 0, what)), IAE);
            due("what " + what + " ahead of no entry", answer(() -> x.entry(0, 2, what)), IAE);
        }
        for (int i : new int[] {-1, 2, 40, Integer.MIN_VALUE, Integer.MAX_VALUE}) {
            due("entry " + i, answer(() -> x.entry(0, i, 0)), IOOBE);
            due("last what of entry " + i, answer(() -> x.entry(0, i, 31)), IOOBE);
        }
        due("none in the other tree", answer(() -> x.entry(1, 0, 0)), IOOBE);
        for (int tree : NO_TREES) {
            due("entry of tree " + tree, answer(() -> x.entry(tree, 0, 0)), IAE);
            due("ahead of no entry", answer(() -> x.entry(tree, 9, 0)), IAE);
        }
    }

    private static void entryOrder() {
        String ordered = "0 0/z 00 0a 9 a a/0 a/a a/a/z=1 a/aa a0 a9 aa aa/a ab b";
        String[] words = ordered.split(" ");
        TreeChanges x = new TreeChanges();
        for (int names = 1; names <= 4; names++) {
            for (int i = words.length - 1; i >= 0; i--) {
                if (words[i].split("/").length == names) {
                    grow(x, 0, words[i]);
                }
            }
        }
        due("order", list(x, 0), ordered);
        TreeChanges y = pair("a=12", "");
        file(y, 1, "a", "34");
        add(y, 1, "a", "56");
        due("a path's bytes in each tree", list(y, 0) + " " + list(y, 1), "a=12 a=3456");
    }

    public static void main(String[] args) {
        newObject();
        paths();
        zeroBytesOfPaths();
        pathStays();
        directories();
        fortyDirectories();
        files();
        fortyFiles();
        adding();
        removing();
        moving();
        wrongMoves();
        longPaths();
        copying();
        changing();
        biggestLayer();
        longestLayer();
        emptiedFullTree();
        layerBytes();
        applying();
        applyingElsewhere();
        applyingToFullTrees();
        sameness();
        counting();
        entryWhats();
        entryOrder();
        finish();
    }
}
