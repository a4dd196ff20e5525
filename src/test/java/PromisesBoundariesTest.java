/** For each sentence of the promises 1 to 14 that names a boundary: a test of its own. */
public final class PromisesBoundariesTest extends Trials {
    private static final String SIXTEEN = "abcdefghijklmnop";
    private static final String FULL = numbered("m", 0, 38, "=1") + " n=" + SIXTEEN + " o";
    private static final int[] FAR = {Integer.MIN_VALUE, Integer.MIN_VALUE + 1, Integer.MAX_VALUE};

    private static void promise1() {
        sentence("1: Empty trees", () -> {
            State.fresh().answers(0, x -> x.entries(0));
            State.fresh().answers(0, x -> x.entries(1));
            State.fresh().refuses(IOOBE, x -> x.entry(0, 0, 0));
            State.fresh().refuses(IOOBE, x -> x.entry(1, 0, 0));
            State.fresh().answers(true, x -> x.same());
        });
        sentence("1: an empty layer", () -> {
            State.fresh().hasLayer("");
            State.fresh().refuses(IOOBE, x -> x.layer(0));
            State.of("a=1", "").does(x -> x.apply(0)).has(0, "a=1");
        });
        sentence("1: no path", () -> {
            State.fresh().refuses(ISE, x -> x.directory(0));
            State.fresh().refuses(ISE, x -> x.file(0, 1));
            State.fresh().refuses(ISE, x -> x.add(0, 1));
            State.fresh().refuses(ISE, x -> x.remove(0));
            State.fresh().refuses(ISE, x -> x.move(0, 'a', 0, 0));
        });
    }

    private static void promise2() {
        sentence("2: THE PATH becomes that of up to twelve signs", () -> {
            State.fresh().at("a").does(x -> x.directory(0)).has(0, "a");
            State.of("aaaa aaaa/bbbb", "").at("aaaa/bbbb/cc").does(x -> x.file(0, 'x'))
                    .has(0, "aaaa aaaa/bbbb aaaa/bbbb/cc=x");
            State.fresh().at("a").at("b").does(x -> x.directory(0)).has(0, "b");
        });
        sentence("2: whether they are one", () -> {
            State.fresh().answers(true, x -> path(x, "a"));
            State.fresh().answers(true, x -> path(x, "aaaa/bbbb/cc"));
            State.fresh().answers(false, x -> x.path(0, 0, 0));
            State.fresh().answers(false, x -> x.path(-1, -1, -1));
            State.fresh().answers(false, x -> x.path(Integer.MIN_VALUE, 0, 0));
            State.fresh().answers(false, x -> x.path('a', 0, Integer.MIN_VALUE));
        });
        sentence("2: if not, there is none", () -> {
            State bad = State.of("a a/b=1", "").at("a/b").then(x -> x.path('/', 0, 0));
            bad.refuses(ISE, x -> x.directory(1));
            bad.refuses(ISE, x -> x.file(0, 1));
            bad.refuses(ISE, x -> x.add(0, 1));
            bad.refuses(ISE, x -> x.remove(0));
            bad.refuses(ISE, x -> x.move(0, 'z', 0, 0));
            bad.at("a/b").does(x -> x.remove(0)).has(0, "a");
        });
    }

    private static void promise3() {
        sentence("3: THE PATH becomes a directory", () -> {
            State.of("a a/b a/b/c", "").at("a/b/c/d").does(x -> x.directory(0)).has(0, "a a/b a/b/c a/b/c/d");
            State.of("", numbered("m", 0, 39, "")).at("z").does(x -> x.directory(1))
                    .has(1, numbered("m", 0, 39, "") + " z");
        });
        sentence("3: IllegalStateException if there is no path", () ->
                State.of("a", "").at("").refuses(ISE, x -> x.directory(0)));
        sentence("3: IllegalStateException if it is in the tree", () -> {
            State.of("a a/b=1", "").at("a").refuses(ISE, x -> x.directory(0));
            State.of("a a/b=1", "").at("a/b").refuses(ISE, x -> x.directory(0));
            State.of("a a/b=1", "").at("a").does(x -> x.directory(1)).has(1, "a");
        });
        sentence("3: IllegalStateException if the one one name shorter is no directory", () -> {
            State.of("a=1", "").at("a/b").refuses(ISE, x -> x.directory(0));
            State.of("a", "b").at("b/c").refuses(ISE, x -> x.directory(0));
            State.of("a", "").at("a/b/c").refuses(ISE, x -> x.directory(0));
            State.of("a", "").at("aa/b").refuses(ISE, x -> x.directory(0));
            State.of("aa", "").at("a/b").refuses(ISE, x -> x.directory(0));
        });
        sentence("3: UnsupportedOperationException if there are 40 entries", () -> {
            State.of(FULL, "").at("a").refuses(UOE, x -> x.directory(0));
            State.of(FULL, "").at("o/a").refuses(UOE, x -> x.directory(0));
            State.of(FULL, "").at("n").refuses(ISE, x -> x.directory(0));
            State.of(FULL, "").at("n/a").refuses(ISE, x -> x.directory(0));
            State.of(FULL, "").at("").refuses(ISE, x -> x.directory(0));
        });
    }

    private static void promise4() {
        sentence("4: THE PATH becomes a file with up to four bytes", () -> {
            State.fresh().at("a").does(x -> x.file(0, 0)).has(0, "a=");
            State.fresh().at("a").does(x -> x.file(0, '1')).has(0, "a=1");
            State.fresh().at("a").does(x -> x.file(0, word("1234", 0))).has(0, "a=1234");
            State.fresh().at("a").does(x -> x.file(0, -1)).answers(4, x -> x.entry(0, 0, 2));
            State.of("", numbered("m", 0, 39, "")).at("z").does(x -> x.file(1, 'y'))
                    .has(1, numbered("m", 0, 39, "") + " z=y");
        });
        sentence("4: (also if it is one)", () -> {
            State.of("a=" + SIXTEEN, "").does(x -> x.file(0, 'z')).has(0, "a=z");
            State.of("a=" + SIXTEEN, "").does(x -> x.file(0, 0)).has(0, "a=");
            State.of("a=", "").does(x -> x.file(0, word("wxyz", 0))).has(0, "a=wxyz");
        });
        sentence("4: IllegalStateException if there is no path", () ->
                State.of("a", "").at("").refuses(ISE, x -> x.file(0, 1)));
        sentence("4: IllegalStateException if it is a directory", () -> {
            State.of("a", "").at("a").refuses(ISE, x -> x.file(0, 1));
            State.of("a a/b a/b/c=1", "").at("a/b").refuses(ISE, x -> x.file(0, 1));
            State.of("a", "").at("a").does(x -> x.file(1, '1')).has(1, "a=1");
        });
        sentence("4: IllegalStateException if the one one name shorter is none", () -> {
            State.of("a=1", "").at("a/b").refuses(ISE, x -> x.file(0, 1));
            State.of("a", "b").at("b/c").refuses(ISE, x -> x.file(0, 1));
            State.of("a", "").at("a/b/c").refuses(ISE, x -> x.file(0, 1));
            State.of("aa", "").at("a/b").refuses(ISE, x -> x.file(0, 1));
        });
        sentence("4: UnsupportedOperationException if it is new and there are 40 entries", () -> {
            State.of(FULL, "").at("a").refuses(UOE, x -> x.file(0, 1));
            State.of(FULL, "").at("o/a").refuses(UOE, x -> x.file(0, 0));
            State.of(FULL, "").at("o").refuses(ISE, x -> x.file(0, 1));
            State.of(FULL, "").at("n/a").refuses(ISE, x -> x.file(0, 1));
            State.of(FULL, "").at("n").does(x -> x.file(0, '2'))
                    .has(0, numbered("m", 0, 38, "=1") + " n=2 o");
        });
    }

    private static void promise5() {
        sentence("5: Up to four bytes more at the end of the file there", () -> {
            State.of("a=", "").does(x -> x.add(0, 0)).has(0, "a=");
            State.of("a=", "").does(x -> x.add(0, '1')).has(0, "a=1");
            State.of("a=12", "").does(x -> x.add(0, word("3456", 0))).has(0, "a=123456");
            State.of("a=12", "a=12").does(x -> x.add(1, '3')).has(0, "a=12");
        });
        sentence("5: IllegalStateException if there is no path", () ->
                State.of("a=1", "").at("").refuses(ISE, x -> x.add(0, 1)));
        sentence("5: IllegalStateException if it is no file", () -> {
            State.of("a", "b=1").at("a").refuses(ISE, x -> x.add(0, 1));
            State.of("a", "b=1").at("b").refuses(ISE, x -> x.add(0, 1));
            State.of("a", "b=1").at("a").refuses(ISE, x -> x.add(0, 0));
        });
        sentence("5: UnsupportedOperationException if it would have more than sixteen", () -> {
            State fifteen = State.of("a=abcdefghijklmno", "");
            fifteen.does(x -> x.add(0, 'p')).has(0, "a=" + SIXTEEN);
            fifteen.does(x -> x.add(0, 'p' << 24)).has(0, "a=" + SIXTEEN);
            fifteen.refuses(UOE, x -> x.add(0, word("pq", 0)));
            fifteen.refuses(UOE, x -> x.add(0, -1));
            State twelve = State.of("a=abcdefghijkl", "");
            twelve.does(x -> x.add(0, word("mnop", 0))).has(0, "a=" + SIXTEEN);
            State thirteen = State.of("a=abcdefghijklm", "");
            thirteen.does(x -> x.add(0, word("nop", 0))).has(0, "a=" + SIXTEEN);
            thirteen.refuses(UOE, x -> x.add(0, word("nopq", 0)));
            State sixteen = State.of("a=" + SIXTEEN, "");
            sixteen.does(x -> x.add(0, 0)).has(0, "a=" + SIXTEEN);
            for (int bytes : new int[] {1, 0x100, 0x10000, 0x1000000, Integer.MIN_VALUE, -1}) {
                sixteen.refuses(UOE, x -> x.add(0, bytes));
            }
        });
    }

    private static void promise6() {
        sentence("6: What is there goes, with all below it", () -> {
            State.of("a=1", "").does(x -> x.remove(0)).has(0, "");
            State.of("a a/b a/b/c a/b/c/d=1 a0=1 aa b", "a=1").at("a").does(x -> x.remove(0))
                    .has(0, "a0=1 aa b");
            State.of("a a/b=1", "a=1").at("a").does(x -> x.remove(0)).has(1, "a=1");
            State.of("d " + numbered("d/", 0, 39, "=1"), "").at("d").does(x -> x.remove(0)).has(0, "");
            State.of(FULL, "").at("m10").does(x -> x.remove(0)).at("a").does(x -> x.directory(0))
                    .answers(40, x -> x.entries(0));
        });
        sentence("6: IllegalStateException if there is no path", () ->
                State.of("a=1", "").at("").refuses(ISE, x -> x.remove(0)));
        sentence("6: IllegalStateException if nothing is there", () -> {
            State.of("", "").at("a").refuses(ISE, x -> x.remove(0));
            State.of("a a/b=1", "c=1").at("c").refuses(ISE, x -> x.remove(0));
            State.of("ab", "").at("a").refuses(ISE, x -> x.remove(0));
            State.of("a", "").at("a").does(x -> x.remove(0)).refuses(ISE, x -> x.remove(0));
        });
    }

    private static void promise7() {
        sentence("7: What is there comes, with all below it, to another path", () -> {
            State.of("a=1", "").moved(0, "a", "b").has(0, "b=1");
            State.of("a=1 b=2", "").moved(0, "a", "c").has(0, "b=2 c=1");
            State.of("a=1 b=2", "").moved(0, "b", "0").has(0, "0=2 a=1");
            State.of("a a/b a/b/c a/b/c/d=1 a0=2", "a").moved(0, "a", "z")
                    .has(0, "a0=2 z z/b z/b/c z/b/c/d=1");
            State.of("d " + numbered("d/", 0, 38, "=1") + " e", "").moved(0, "d", "e/d")
                    .has(0, "e e/d " + numbered("e/d/", 0, 38, "=1"));
        });
        sentence("7: IllegalArgumentException if the signs are none", () -> {
            State state = State.of("a=1", "").at("a");
            state.refuses(IAE, x -> x.move(0, 0, 0, 0));
            state.refuses(IAE, x -> x.move(0, '/', 0, 0));
            state.refuses(IAE, x -> x.move(0, -1, -1, -1));
            state.refuses(IAE, x -> x.move(0, word("abcd", 0), 'e', 0));
            state.refuses(IAE, x -> x.move(0, word("b/c/", 0), word("d/e/", 0), 'f'));
            state.at("").refuses(IAE, x -> x.move(0, 0, 0, 0));
            state.at("n").refuses(IAE, x -> x.move(0, 0, 0, 0));
        });
        sentence("7: IllegalStateException if there is no path", () ->
                State.of("a=1", "").at("").refuses(ISE, x -> x.move(0, 'b', 0, 0)));
        sentence("7: IllegalStateException if nothing is there", () -> {
            State.of("a=1", "c=1").at("c").refuses(ISE, x -> x.move(0, 'b', 0, 0));
            State.of("", "").at("a").refuses(ISE, x -> x.move(0, 'b', 0, 0));
        });
        sentence("7: IllegalStateException if something is at the other one", () -> {
            State state = State.of("a=1 b=2 c c/d=3", "");
            state.at("a").refuses(ISE, x -> x.move(0, 'b', 0, 0));
            state.at("a").refuses(ISE, x -> x.move(0, 'c', 0, 0));
            state.at("a").refuses(ISE, x -> x.move(0, 'a', 0, 0));
            state.at("c").refuses(ISE, x -> x.move(0, 'c', 0, 0));
            state.at("c").refuses(ISE, x -> x.move(0, word("c/d", 0), 0, 0));
            state.at("c/d").refuses(ISE, x -> x.move(0, 'c', 0, 0));
        });
        sentence("7: IllegalStateException if that is below the first one", () -> {
            State state = State.of("a a/b aa", "");
            state.at("a").refuses(ISE, x -> x.move(0, word("a/c", 0), 0, 0));
            state.at("a").refuses(ISE, x -> x.move(0, word("a/b/", 0), 'c', 0));
            state.moved(0, "a", "aa/a").has(0, "aa aa/a aa/a/b");
            state.moved(0, "a/b", "a/bb").has(0, "a a/bb aa");
        });
        sentence("7: IllegalStateException if its path one name shorter is no directory", () -> {
            State state = State.of("a=1 b=2 c", "d");
            state.at("a").refuses(ISE, x -> x.move(0, word("b/a", 0), 0, 0));
            state.at("a").refuses(ISE, x -> x.move(0, word("d/a", 0), 0, 0));
            state.at("a").refuses(ISE, x -> x.move(0, word("c/a/", 0), 'b', 0));
            state.at("a").refuses(ISE, x -> x.move(0, word("a/b", 0), 0, 0));
        });
        sentence("7: IllegalStateException if a path would have more than four names", () -> {
            State state = State.of("a a/b a/b/c=1 k k/l k/l/m", "");
            state.at("a").refuses(ISE, x -> x.move(0, word("k/l/", 0), 'a', 0));
            state.grown(0, "0").at("a").refuses(ISE, x -> x.move(0, word("k/l/", 0), 'a', 0));
            state.grown(0, "a/b/d a/c").at("a").refuses(ISE, x -> x.move(0, word("k/l/", 0), 'a', 0));
            state.at("a").refuses(ISE, x -> x.move(0, word("k/l/", 0), word("m/a", 0), 0));
            state.at("a/b").refuses(ISE, x -> x.move(0, word("k/l/", 0), word("m/b", 0), 0));
            state.moved(0, "a", "k/a").has(0, "k k/a k/a/b k/a/b/c=1 k/l k/l/m");
            state.moved(0, "a/b", "k/l/b").has(0, "a k k/l k/l/b k/l/b/c=1 k/l/m");
            state.moved(0, "a/b/c", "k/l/m/c").has(0, "a a/b k k/l k/l/m k/l/m/c=1");
        });
        sentence("7: (Paths may have more than twelve signs so, up to nineteen.)", () -> {
            State state = State.of("a a/b a/b/c a/b/c/dddd=1", "").moved(0, "a/b/c", "a/b/cccc")
                    .moved(0, "a/b", "a/bbbb");
            state.does(x -> x.changes(1)).hasLayer("<1><1>a<0><0><1><6>a/bbbb<0><0>"
                    + "<1><11>a/bbbb/cccc<0><0><2><16>a/bbbb/cccc/dddd<1><0>1");
            state.moved(0, "a", "aaaa").does(x -> x.changes(1)).hasLayer("<1><4>aaaa<0><0><1><9>aaaa/bbbb"
                    + "<0><0><1><14>aaaa/bbbb/cccc<0><0><2><19>aaaa/bbbb/cccc/dddd<1><0>1");
            state.moved(0, "a", "aaaa").moved(0, "aaaa", "a").moved(0, "a/bbbb", "b")
                    .has(0, "a b b/cccc b/cccc/dddd=1");
        });
    }

    private static void promise8() {
        sentence("8: A tree becomes like another one", () -> {
            State state = State.of(FULL, "");
            state.does(x -> x.copy(0, 1)).has(1, FULL);
            state.does(x -> x.copy(0, 1)).answers(true, x -> x.same());
            state.does(x -> x.copy(1, 0)).has(0, "");
            state.does(x -> x.copy(0, 0)).has(0, FULL);
            state.does(x -> x.copy(1, 1)).has(0, FULL);
            state.does(x -> x.copy(0, 1)).at("n").does(x -> x.file(1, '1')).has(0, FULL);
        });
        sentence("8: IllegalArgumentException", () -> {
            State state = State.of("a", "b");
            for (int tree : NO_TREES) {
                state.refuses(IAE, x -> x.copy(tree, 0));
                state.refuses(IAE, x -> x.copy(0, tree));
            }
        });
    }

    /** Files that go and files that come, but for one that stays, so that their directory isn't emptied. */
    private static State longestLayer() {
        String inBoth = "a a/b a/b/c a/b/c/mmmm=1";
        StringBuilder come = new StringBuilder(inBoth);
        for (int i = 10; i < 20; i++) {
            come.append(" a/b/c/zz").append(i).append('=').append(SIXTEEN);
        }
        State state = State.of(inBoth + " " + numbered("a/b/c/00", 0, 36, "="), come.toString());
        for (int tree = 0; tree < 2; tree++) {
            state = state.moved(tree, "a/b/c", "a/b/cccc").moved(tree, "a/b", "a/bbbb").moved(tree, "a", "aaaa");
        }
        return state;
    }

    private static void promise9() {
        sentence("9: The layer becomes the changes from a tree to the other one", () -> {
            State state = State.of("a=1", "b=2").does(x -> x.changes(0));
            state.hasLayer("<3><1>a<0><0><2><1>b<1><0>2");
            state.does(x -> x.changes(1)).hasLayer("<2><1>a<1><0>1<3><1>b<0><0>");
            state.does(x -> x.copy(0, 1)).hasLayer("<3><1>a<0><0><2><1>b<1><0>2");
            state.does(x -> x.copy(0, 1)).does(x -> x.changes(1)).hasLayer("");
        });
        sentence("9: how many bytes", () -> {
            State.fresh().answers(0, x -> x.changes(0));
            State.of("", "a").answers(5, x -> x.changes(0));
            State.of("", "a=" + SIXTEEN).answers(21, x -> x.changes(0));
            State.of("", FULL).answers(38 * 8 + 21 + 5, x -> x.changes(0));
            State.of(FULL, "").answers(38 * 7 + 5 + 5, x -> x.changes(0));
            State.of(FULL, FULL).answers(0, x -> x.changes(1));
        });
        sentence("9: how many bytes, where paths have nineteen signs and files sixteen bytes", () -> {
            State longest = longestLayer();
            longest.answers(36 * (4 + 19) + 10 * (4 + 19 + 16), x -> x.changes(0));
            longest.does(x -> x.changes(0)).does(x -> x.apply(0)).answers(true, x -> x.same());
        });
        sentence("9: IllegalArgumentException", () -> {
            for (int tree : NO_TREES) {
                State.of("a", "b").does(x -> x.changes(0)).refuses(IAE, x -> x.changes(tree));
            }
        });
    }

    private static void promise10() {
        sentence("10: Byte k of the layer", () -> {
            State state = State.of("", "a=").does(x -> x.file(1, 0xff80017f)).does(x -> x.changes(0));
            int[] want = {2, 1, 'a', 4, 0, 0x7f, 0x01, 0x80, 0xff};
            for (int k = 0; k < want.length; k++) {
                int at = k;
                state.answers(want[k], x -> x.layer(at));
            }
        });
        sentence("10: IndexOutOfBoundsException if there is none such", () -> {
            State state = State.of("", "a=1").does(x -> x.changes(0));
            state.answers((int) '1', x -> x.layer(5));
            state.refuses(IOOBE, x -> x.layer(6));
            state.refuses(IOOBE, x -> x.layer(-1));
            state.does(x -> x.changes(1)).refuses(IOOBE, x -> x.layer(5));
            State.fresh().refuses(IOOBE, x -> x.layer(0));
            for (int k : FAR) {
                state.refuses(IOOBE, x -> x.layer(k));
            }
        });
    }

    private static void promise11() {
        sentence("11: The layer is applied to a tree", () -> {
            State state = State.of("a a/b a/c d=1", "a e=" + SIXTEEN).does(x -> x.changes(0));
            state.does(x -> x.apply(0)).has(0, "a e=" + SIXTEEN);
            state.does(x -> x.apply(0)).has(1, "a e=" + SIXTEEN);
            state.does(x -> x.apply(0)).hasLayer("<4><1>a<0><0><3><1>d<0><0><2><1>e<16><0>" + SIXTEEN);
            State.of(FULL, "").does(x -> x.apply(0)).has(0, FULL);
            State.of("", FULL).does(x -> x.changes(0)).does(x -> x.apply(0)).has(0, FULL);
            State.of("", FULL).does(x -> x.changes(0)).does(x -> x.apply(1)).has(1, FULL);
        });
        sentence("11: IllegalStateException if it can't be", () -> {
            State state = State.of("a a/b a/c d=1", "a e=2").does(x -> x.changes(0));
            state.refuses(ISE, x -> x.apply(1));
            state.does(x -> x.apply(0)).refuses(ISE, x -> x.apply(0));
            State.of(numbered("m", 0, 40, ""), numbered("l", 0, 40, "")).does(x -> x.changes(0))
                    .refuses(ISE, x -> x.apply(0));
        });
        sentence("11: IllegalArgumentException", () -> {
            for (int tree : NO_TREES) {
                State.of("a", "b").does(x -> x.changes(0)).refuses(IAE, x -> x.apply(tree));
            }
        });
    }

    private static void promise12() {
        sentence("12: Whether both trees have the same entries", () -> {
            State.fresh().answers(true, x -> x.same());
            State.of("a", "").answers(false, x -> x.same());
            State.of("", "a").answers(false, x -> x.same());
            State.of("a", "a=").answers(false, x -> x.same());
            State.of("a", "b").answers(false, x -> x.same());
            State.of("a", "a a/b").answers(false, x -> x.same());
            State.of("a=", "a=1").answers(false, x -> x.same());
            State.of("a=" + SIXTEEN, "a=abcdefghijklmnoq").answers(false, x -> x.same());
            State.of("a=" + SIXTEEN, "a=" + SIXTEEN).answers(true, x -> x.same());
            State.of("b a a/c=1", "a b a/c=1").answers(true, x -> x.same());
            State.of(FULL, FULL).answers(true, x -> x.same());
            State.of(FULL, FULL).at("o").does(x -> x.remove(0)).answers(false, x -> x.same());
        });
        sentence("12: the same entries, also where their paths have nineteen signs", () -> {
            State state = State.of("a a/b a/b/c a/b/c/dddd=1 a/b/c/ddde=1", "").moved(0, "a/b/c", "a/b/cccc")
                    .moved(0, "a/b", "a/bbbb").does(x -> x.copy(0, 1));
            state.moved(0, "a", "aaaa").moved(1, "a", "aaaa").answers(true, x -> x.same());
            State.of("a a/b a/b/c a/b/c/dddd=1", "a a/b a/b/c a/b/c/ddde=1")
                    .moved(0, "a/b/c", "a/b/cccc").moved(1, "a/b/c", "a/b/cccc")
                    .moved(0, "a/b", "a/bbbb").moved(1, "a/b", "a/bbbb")
                    .moved(0, "a", "aaaa").moved(1, "a", "aaaa").answers(false, x -> x.same());
        });
    }

    private static void promise13() {
        sentence("13: How many entries a tree has", () -> {
            State.of("a a/b=1 c", "d").answers(3, x -> x.entries(0));
            State.of("a a/b=1 c", "d").answers(1, x -> x.entries(1));
            State.of("", FULL).answers(0, x -> x.entries(0));
            State.of("", FULL).answers(40, x -> x.entries(1));
        });
        sentence("13: IllegalArgumentException", () -> {
            for (int tree : NO_TREES) {
                State.of("a", "b").refuses(IAE, x -> x.entries(tree));
            }
        });
    }

    private static void tells(State state, int i, int what, int want) {
        state.answers(want, x -> x.entry(0, i, what));
    }

    private static void promise14() {
        State state = State.of("a a/b=x aa aa/b aa/b/ccc aa/b/ccc/ddd=" + SIXTEEN + " e=", "");
        sentence("14: Of entry i (in order)", () -> {
            tells(state, 0, 0, 1);
            tells(state, 6, 3, 'e');
            State full = State.of(FULL, "");
            tells(full, 0, 3, 'm');
            tells(full, 39, 3, 'o');
        });
        sentence("14: 0 its kind, 1 or 2", () -> {
            tells(state, 0, 0, 1);
            tells(state, 1, 0, 2);
            tells(state, 6, 0, 2);
        });
        sentence("14: 1 how many names its path has", () -> {
            tells(state, 0, 1, 1);
            tells(state, 1, 1, 2);
            tells(state, 4, 1, 3);
            tells(state, 5, 1, 4);
        });
        sentence("14: 2 how many bytes (0 for a directory)", () -> {
            tells(state, 0, 2, 0);
            tells(state, 1, 2, 1);
            tells(state, 5, 2, 16);
            tells(state, 6, 2, 0);
        });
        sentence("14: 3 + k sign k of its path (k up to 12)", () -> {
            tells(state, 5, 3, 'a');
            tells(state, 5, 5, '/');
            tells(state, 5, 14, 'd');
            State longer = State.of("a a/b a/b/c a/b/c/1234=x", "").moved(0, "a/b/c", "a/b/cccc");
            tells(longer, 3, 14, '3');
            tells(longer, 3, 15, '4');
            State longest = longer.moved(0, "a/b", "a/bbbb").moved(0, "a", "aaaa");
            tells(longest, 3, 15, 'c');
            tells(longest, 3, 16, 'x');
        });
        sentence("14: 16 + k byte k of the file (k up to 15)", () -> {
            tells(state, 5, 16, 'a');
            tells(state, 5, 30, 'o');
            tells(state, 5, 31, 'p');
            State high = State.of("a=", "").does(x -> x.file(0, 0xff800100));
            tells(high, 0, 16, 1);
            tells(high, 0, 17, 128);
            tells(high, 0, 18, 255);
        });
        sentence("14: NONE behind their ends", () -> {
            tells(state, 0, 4, -1);
            tells(state, 0, 15, -1);
            tells(state, 5, 15, -1);
            tells(state, 1, 17, -1);
            tells(state, 1, 31, -1);
            tells(state, 6, 16, -1);
        });
        sentence("14: NONE for a directory", () -> {
            State was = State.of("a=" + SIXTEEN, "a").does(x -> x.changes(0)).does(x -> x.apply(0));
            for (int what = 16; what <= 31; what++) {
                tells(state, 0, what, -1);
                tells(was, 0, what, -1);
            }
            tells(state, 0, 3, 'a');
        });
        sentence("14: IllegalArgumentException for another what", () -> {
            state.refuses(IAE, x -> x.entry(0, 0, -1));
            state.refuses(IAE, x -> x.entry(0, 0, 32));
            for (int what : FAR) {
                state.refuses(IAE, x -> x.entry(0, 5, what));
            }
        });
        sentence("14: (also ahead of IndexOutOfBoundsException)", () -> {
            state.refuses(IAE, x -> x.entry(0, 7, 32));
            state.refuses(IAE, x -> x.entry(0, -1, -1));
            State.fresh().refuses(IAE, x -> x.entry(1, 0, 32));
        });
        sentence("14: IndexOutOfBoundsException if there is no such entry", () -> {
            state.refuses(IOOBE, x -> x.entry(0, -1, 0));
            state.refuses(IOOBE, x -> x.entry(0, 7, 0));
            state.refuses(IOOBE, x -> x.entry(0, 7, 31));
            state.refuses(IOOBE, x -> x.entry(1, 0, 0));
            State.of(FULL, "").refuses(IOOBE, x -> x.entry(0, 40, 0));
            state.at("e").does(x -> x.remove(0)).refuses(IOOBE, x -> x.entry(0, 6, 0));
            for (int i : FAR) {
                state.refuses(IOOBE, x -> x.entry(0, i, 0));
            }
        });
    }

    public static void main(String[] args) {
        promise1();
        promise2();
        promise3();
        promise4();
        promise5();
        promise6();
        promise7();
        promise8();
        promise9();
        promise10();
        promise11();
        promise12();
        promise13();
        promise14();
        finish();
    }
}
