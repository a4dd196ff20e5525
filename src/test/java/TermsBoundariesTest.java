/** For each sentence of the document's beginning and of its 'Terms' that names a boundary: its own test. */
public final class TermsBoundariesTest extends Trials {
    private static final String FORTY_FILES = numbered("m", 0, 40, "=1");
    private static final String FORTY_DIRECTORIES = numbered("m", 0, 40, "");
    private static final String SIXTEEN = "abcdefghijklmnop";

    private static void pathIs(boolean want, String... all) {
        for (String signs : all) {
            due("path " + signs, path(new TreeChanges(), signs), want);
        }
    }

    private static void calls() {
        sentence("An object is used for at most 512 calls after it has been made", () -> {
            TreeChanges x = new TreeChanges();
            grow(x, 0, FORTY_FILES);
            grow(x, 1, numbered("n", 0, 40, "=1"));
            for (int call = 161; call <= 510; call++) {
                due("call " + call, x.changes(0), 40 * 7 + 40 * 8);
            }
            due("the 511th call", outcome(() -> x.apply(0)), DONE);
            due("the 512th call", x.same(), true);
            TreeChanges y = new TreeChanges();
            for (int call = 1; call <= 511; call++) {
                due("refused call " + call, outcome(() -> y.directory(0)), ISE);
            }
            due("the 512th call", y.entries(0), 0);
        });
    }

    private static void paths() {
        sentence("A PATH is one to four NAMES", () -> {
            pathIs(true, "a", "a/b", "a/b/c", "a/b/c/d", "0/1/2/3", "ab/cd/ef/ghi");
            pathIs(false, "", "a/b/c/d/e", "a/b/c/d/e/f");
        });
        sentence("NAMES with / between them", () -> {
            pathIs(true, "aa/b", "a/bb");
            pathIs(false, "/", "//", "/a", "a/", "a//b", "/a/b", "a/b/", "a/b/c/d/", "a\\b", "a.b", "a b");
        });
        sentence("of at most twelve signs in all", () -> {
            pathIs(true, "aaaa/bbbb/c", "aaaa/bbbb/cc", "aa/b/ccc/ddd", "a/bbb/cc/ddd", "aaaa/bb/cc/d");
            State.of("aaaa aaaa/bbbb aaaa/bbbb/cd=1", "").answers((int) 'd', x -> x.entry(0, 2, 14));
            State.of("aaaa aaaa/bbbb aaaa/bbbb/cd=1", "").answers(-1, x -> x.entry(0, 2, 15));
        });
        sentence("a name is one to four small letters or digits", () -> {
            pathIs(true, "abcd", "wxyz/1234", "a/b/cdef", "a/b/c/defg", "1234/a/b/c", "aaaa");
            pathIs(false, "abcde", "abcde/f", "a/bcdef", "a/b/cdefg", "a/b/c/defgh", "12345", "abcdefghijkl");
        });
        sentence("small letters or digits", () -> {
            for (int sign = 0; sign < 256; sign++) {
                boolean right = sign >= 'a' && sign <= 'z' || sign >= '0' && sign <= '9';
                due("sign " + sign + " alone", new TreeChanges().path(sign, 0, 0), right);
                due("sign " + sign + " highest of b", new TreeChanges().path(0, sign << 24, 0), right);
                due("sign " + sign + " last of all", new TreeChanges().path(0, 0, sign << 24), right);
                due("sign " + sign + " behind one", new TreeChanges().path('a' | sign << 8, 0, 0),
                        right || sign == 0);
                due("sign " + sign + " between two", new TreeChanges().path('a', sign << 16, 'b'),
                        right || sign == 0 || sign == '/');
            }
        });
    }

    private static void trees() {
        sentence("each with at most 40 ENTRIES", () -> {
            State full = State.of(FORTY_FILES, FORTY_DIRECTORIES);
            full.has(0, FORTY_FILES);
            full.has(1, FORTY_DIRECTORIES);
            for (int tree = 0; tree < 2; tree++) {
                int t = tree;
                full.answers(40, x -> x.entries(t));
                full.at("a").refuses(UOE, x -> x.directory(t));
                full.at("a").refuses(UOE, x -> x.file(t, 1));
            }
        });
        sentence("at most 40 ENTRIES: each tree has its own", () -> {
            State one = State.of(FORTY_FILES, "");
            one.at("a").does(x -> x.directory(1)).has(1, "a");
            State other = State.of("", FORTY_FILES);
            other.at("a").does(x -> x.file(0, '2')).has(0, "a=2");
        });
        sentence("a FILE with at most sixteen bytes", () -> {
            State.of("a=", "").answers(0, x -> x.entry(0, 0, 2));
            State full = State.of("a=" + SIXTEEN, "");
            full.has(0, "a=" + SIXTEEN);
            full.answers(16, x -> x.entry(0, 0, 2));
            full.refuses(UOE, x -> x.add(0, 'q'));
        });
        sentence("all paths that are the beginnings of an entry's path are directories of its tree", () -> {
            State bare = State.of("f=1", "a a/b");
            bare.at("a/b").refuses(ISE, x -> x.directory(0));
            bare.at("a/b/c").refuses(ISE, x -> x.directory(0));
            bare.at("f/b").refuses(ISE, x -> x.file(0, 1));
            State.of("a a/b a/b/c=1", "").at("a").does(x -> x.remove(0)).has(0, "");
            State.of("a a/b a/b/c=1", "").at("a").refuses(ISE, x -> x.file(0, 1));
            State.of("a a/b a/b/c=1", "").moved(0, "a/b", "z").has(0, "a z z/c=1");
        });
    }

    private static void order() {
        sentence("in the order of their signs", () ->
                State.of("cb ca b1 b0 ab aa zz zy", "").has(0, "aa ab b0 b1 ca cb zy zz"));
        sentence("one that ends goes first", () ->
                State.of("abcd abc ab a", "a a/b=1").has(0, "a ab abc abcd"));
        sentence("/ is before digits", () ->
                State.of("a0 a00=1 a a/z a/z/z a9", "").has(0, "a a/z a/z/z a0 a00=1 a9"));
        sentence("these before letters", () ->
                State.of("a 9 z 0 a9 aa az a0", "").has(0, "0 9 a a0 a9 aa az z"));
        sentence("/ before digits, these before letters, also where an apply puts them", () -> {
            State both = State.of("aa", "a a/z=1 a0=2 aa ab 0=3").does(x -> x.changes(0));
            both.does(x -> x.apply(0)).has(0, "0=3 a a/z=1 a0=2 aa ab");
        });
    }

    private static void changesOfNewPaths() {
        sentence("at most one for each path, in order", () -> {
            State.of("a=1 b b/c=2 d", "a b=3 c=4 d=5").hasChanges(
                    "<1><1>a<0><0><2><1>b<1><0>3<2><1>c<1><0>4<2><1>d<1><0>5");
            State.of("a1=1 b=1", "a a/b=2 a2=3").hasChanges(
                    "<1><1>a<0><0><2><3>a/b<1><0>2<3><2>a1<0><0><2><2>a2<1><0>3<3><1>b<0><0>");
        });
        sentence("a path in B alone: DIRECTORY (1)", () -> {
            State.of("", "a").hasChanges("<1><1>a<0><0>");
            State.of("a", "a a/b a/b/c").hasChanges("<1><3>a/b<0><0><1><5>a/b/c<0><0>");
        });
        sentence("a path in B alone: FILE (2) with its bytes", () -> {
            State.of("", "a=").hasChanges("<2><1>a<0><0>");
            State.of("", "a=x").hasChanges("<2><1>a<1><0>x");
            State.of("", "a=" + SIXTEEN).hasChanges("<2><1>a<16><0>" + SIXTEEN);
        });
        sentence("one in both, a file in B, and in A not a file with the same bytes: FILE", () -> {
            State.of("a=1", "a=2").hasChanges("<2><1>a<1><0>2");
            State.of("a=", "a=2").hasChanges("<2><1>a<1><0>2");
            State.of("a=2", "a=").hasChanges("<2><1>a<0><0>");
            State.of("a=12", "a=1").hasChanges("<2><1>a<1><0>1");
            State.of("a=1", "a=12").hasChanges("<2><1>a<2><0>12");
            State.of("a=" + SIXTEEN, "a=abcdefghijklmnoq").hasChanges("<2><1>a<16><0>abcdefghijklmnoq");
            State.of("a=" + SIXTEEN, "a=bbcdefghijklmnop").hasChanges("<2><1>a<16><0>bbcdefghijklmnop");
            State.of("a", "a=").hasChanges("<2><1>a<0><0>");
            State.of("a a/b=1 a/c", "a=").hasChanges("<2><1>a<0><0>");
        });
        sentence("in A a file with the same bytes: nothing", () -> {
            State.of("a=", "a=").hasChanges("");
            State.of("a=1", "a=1").hasChanges("");
            State.of("a=" + SIXTEEN, "a=" + SIXTEEN).hasChanges("");
        });
        sentence("a directory in B and a file in A: DIRECTORY", () -> {
            State.of("a=", "a").hasChanges("<1><1>a<0><0>");
            State.of("a=" + SIXTEEN, "a").hasChanges("<1><1>a<0><0>");
            State.of("a=1", "a a/b").hasChanges("<1><1>a<0><0><1><3>a/b<0><0>");
        });
    }

    private static void changesOfEmptied() {
        sentence("two or more entries directly below it in A of which none is in B: EMPTIED (4)", () -> {
            State.of("a a/b=1 a/c=2", "a").hasChanges("<4><1>a<0><0>");
            State.of("a a/b a/c a/d", "a").hasChanges("<4><1>a<0><0>");
            State.of("a " + numbered("a/", 0, 39, "=1"), "a").hasChanges("<4><1>a<0><0>");
            State.of("a a/b a/b/c a/b/c/d a/b/c/e", "a a/b a/b/c").hasChanges("<4><5>a/b/c<0><0>");
        });
        sentence("two or more: with one or none it is not EMPTIED", () -> {
            State.of("a a/b=1", "a").hasChanges("<3><3>a/b<0><0>");
            State.of("a", "a").hasChanges("");
            State.of("a", "a a/b a/c").hasChanges("<1><3>a/b<0><0><1><3>a/c<0><0>");
        });
        sentence("directly below it: those further below don't count", () -> {
            State.of("a a/b a/b/c=1 a/b/d=2", "a").hasChanges("<3><3>a/b<0><0>");
            State.of("a a/b a/b/c=1 a0=1 a1=2", "a").hasChanges(
                    "<3><3>a/b<0><0><3><2>a0<0><0><3><2>a1<0><0>");
            State.of("a=1 b=1 c=1", "").hasChanges("<3><1>a<0><0><3><1>b<0><0><3><1>c<0><0>");
        });
        sentence("of which none is in B: one in B, of any kind, and it is not EMPTIED", () -> {
            State.of("a a/b=1 a/c=2 a/d=3", "a a/b=1").hasChanges("<3><3>a/c<0><0><3><3>a/d<0><0>");
            State.of("a a/b=1 a/c=2 a/d=3", "a a/d=3").hasChanges("<3><3>a/b<0><0><3><3>a/c<0><0>");
            State.of("a a/b=1 a/c=2", "a a/c").hasChanges("<3><3>a/b<0><0><1><3>a/c<0><0>");
            State.of("a a/b=1 a/c", "a a/c=1").hasChanges("<3><3>a/b<0><0><2><3>a/c<1><0>1");
            State.of("a a/b=1 a/c=1", "a b=1 c=1").hasChanges(
                    "<4><1>a<0><0><2><1>b<1><0>1<2><1>c<1><0>1");
            State.of("a a/b=1 a/c=1", "a a/a=1 a/bb=1 a/d").hasChanges(
                    "<4><1>a<0><0><2><3>a/a<1><0>1<2><4>a/bb<1><0>1<1><3>a/d<0><0>");
        });
        sentence("a directory in both: else it is not EMPTIED", () -> {
            State.of("a a/b=1 a/c=2", "a=").hasChanges("<2><1>a<0><0>");
            State.of("a a/b=1 a/c=2", "").hasChanges("<3><1>a<0><0>");
        });
    }

    private static void changesOfGone() {
        sentence("a path in A alone whose path one name shorter is a directory in B: GONE (3)", () -> {
            State.of("a a/b=1", "a").hasChanges("<3><3>a/b<0><0>");
            State.of("a a/b a/b/c a/b/c/d=1", "a a/b a/b/c").hasChanges("<3><7>a/b/c/d<0><0>");
            State.of("a a/b a/b/c a/b/c/d=1", "a a/b").hasChanges("<3><5>a/b/c<0><0>");
        });
        sentence("(if it has more than one)", () -> {
            State.of("a=1", "").hasChanges("<3><1>a<0><0>");
            State.of("abcd", "abc").hasChanges("<1><3>abc<0><0><3><4>abcd<0><0>");
            State.of(numbered("m", 0, 40, "=1"), "").answers(40 * 7, x -> x.changes(0));
        });
        sentence("is a directory in B: else not GONE", () -> {
            State.of("a a/b=1", "").hasChanges("<3><1>a<0><0>");
            State.of("a a/b=1", "a=2").hasChanges("<2><1>a<1><0>2");
            State.of("a a/b a/b/c=1", "a=2").hasChanges("<2><1>a<1><0>2");
        });
        sentence("and not EMPTIED: else not GONE", () -> {
            State.of("a a/b a/b/c=1 a/b/d=2 a/e", "a").hasChanges("<4><1>a<0><0>");
            State.of("a a/b=1 a/c=2 a0=3 b b/c=1", "a b").hasChanges(
                    "<4><1>a<0><0><3><2>a0<0><0><3><3>b/c<0><0>");
        });
        sentence("Nothing else.", () -> {
            State.of("", "").hasChanges("");
            State.of("a a/b a/b/c=1 d=", "a a/b a/b/c=1 d=").hasChanges("");
            State.of(FORTY_FILES, FORTY_FILES).hasChanges("");
        });
    }

    private static State longest() {
        return State.of("a a/b a/b/c a/b/c/dddd=1", "").moved(0, "a/b/c", "a/b/cccc")
                .moved(0, "a/b", "a/bbbb").moved(0, "a", "aaaa");
    }

    private static void layers() {
        sentence("of each item its kind, the path's length, the path's signs", () -> {
            State.of("", "a").hasChanges("<1><1>a<0><0>");
            State.of("aa aa/b", "aa aa/b aa/b/ccc aa/b/ccc/ddd=").hasChanges(
                    "<1><8>aa/b/ccc<0><0><2><12>aa/b/ccc/ddd<0><0>");
            longest().does(x -> x.changes(1)).hasLayer("<1><4>aaaa<0><0><1><9>aaaa/bbbb<0><0>"
                    + "<1><14>aaaa/bbbb/cccc<0><0><2><19>aaaa/bbbb/cccc/dddd<1><0>1");
        });
        sentence("two bytes (the lower first) for how many bytes a file has", () -> {
            State.of("", "a=").hasChanges("<2><1>a<0><0>");
            State.of("", "a=" + SIXTEEN + " b=1").hasChanges(
                    "<2><1>a<16><0>" + SIXTEEN + "<2><1>b<1><0>1");
        });
        sentence("(0 for others)", () -> {
            State.of("a=12", "a").hasChanges("<1><1>a<0><0>");
            State.of("a=12", "").hasChanges("<3><1>a<0><0>");
            State.of("a a/b=12 a/c=34", "a").hasChanges("<4><1>a<0><0>");
        });
    }

    private static State layerFor(String older, String newer, String third) {
        return State.of(older, newer).does(x -> x.changes(0)).emptied(0).grown(0, third);
    }

    private static void applies(String older, String newer, String third, String made) {
        layerFor(older, newer, third).does(x -> x.apply(0)).has(0, made);
    }

    private static void cannotApply(String older, String newer, String third) {
        layerFor(older, newer, third).refuses(ISE, x -> x.apply(0));
    }

    private static void applied() {
        sentence("DIRECTORY: a file there goes, and it is a directory", () -> {
            applies("", "a", "", "a");
            applies("", "a", "a=", "a");
            applies("", "a", "a=" + SIXTEEN, "a");
            applies("", "a", "a a/b=1", "a a/b=1");
        });
        sentence("FILE: it is a file with these bytes, and all entries below it go", () -> {
            applies("", "a=1", "", "a=1");
            applies("", "a=", "a=" + SIXTEEN, "a=");
            applies("", "a=" + SIXTEEN, "a=", "a=" + SIXTEEN);
            applies("", "a=1", "a a/b a/b/c a/b/c/d=2 a0=3 b", "a=1 a0=3 b");
        });
        sentence("EMPTIED: all entries below it go", () -> {
            applies("a a/b=1 a/c=2", "a", "a", "a");
            applies("a a/b=1 a/c=2", "a", "a a/d a/d/e a/d/e/f=1 a0=2 b=3", "a a0=2 b=3");
        });
        sentence("GONE: it goes, and all below it", () -> {
            applies("a=1", "", "a", "");
            applies("a=1", "", "a a/b a/b/c a/b/c/d=1 a0=2", "a0=2");
            applies("a a/b=1", "a", "a a/b a/b/c=2 a/d", "a a/d");
        });
        sentence("items are done in order", () -> {
            applies("a=1", "b=2", "a " + numbered("m", 0, 39, ""), "b=2 " + numbered("m", 0, 39, ""));
            cannotApply("b=1", "a=2", "b " + numbered("m", 0, 39, ""));
        });
    }

    private static void notApplied() {
        sentence("CAN'T if DIRECTORY has a path whose path one name shorter isn't a directory", () -> {
            cannotApply("a", "a a/b", "");
            cannotApply("a", "a a/b", "a=1");
            cannotApply("a", "a a/b", "a0");
            cannotApply("a a/b a/b/c", "a a/b a/b/c a/b/c/d", "a a/b");
        });
        sentence("CAN'T if FILE has a path whose path one name shorter isn't a directory", () -> {
            cannotApply("a", "a a/b=1", "");
            cannotApply("a", "a a/b=1", "a=1");
            cannotApply("a", "a a/b=1", "a0");
        });
        sentence("a directory of the tree then", () -> {
            applies("", "a a/b a/b/c=1", "", "a a/b a/b/c=1");
            applies("", "a a/b", "a=1", "a a/b");
            cannotApply("c", "a=1 c c/d", "a b");
        });
        sentence("CAN'T if it would be a 41st entry", () -> {
            cannotApply("", "a", FORTY_FILES);
            cannotApply("", "a=1", FORTY_FILES);
            cannotApply("m10", "m10 m10/a", FORTY_DIRECTORIES);
            cannotApply("", "a b", numbered("m", 0, 39, ""));
        });
        sentence("a 41st entry: not the 40th, and not one that is there", () -> {
            String rest = numbered("m", 1, 39, "=1");
            applies("", "a", rest, "a " + rest);
            applies("", "a=1", rest, "a=1 " + rest);
            applies("", "m10", "m10=1 " + rest, "m10 " + rest);
            applies("", "m10", "m10 " + rest, "m10 " + rest);
            applies("", "m10=2", "m10=1 " + rest, "m10=2 " + rest);
            applies("", "m10=2", "m10 " + rest, "m10=2 " + rest);
            applies("a a/1 a/2", "a a/3", "a " + numbered("a/", 0, 39, ""), "a a/3");
            applies("", "a=1 b", "a " + numbered("a/", 0, 39, ""), "a=1 b");
        });
        sentence("EMPTIED one that isn't a directory", () -> {
            cannotApply("a a/b a/c", "a", "");
            cannotApply("a a/b a/c", "a", "a=1");
            cannotApply("a a/b a/c", "a", "a0 b");
        });
        sentence("GONE one that isn't there", () -> {
            cannotApply("a=1", "", "");
            cannotApply("a=1", "", "a0 b");
            cannotApply("a a/b=1", "a", "a");
            cannotApply("a=1 b=1", "", "a");
        });
    }

    private static void ints() {
        sentence("Signs and bytes are told in ints, the lowest byte first", () -> {
            State.fresh().then(x -> x.path(0x64636261, 0, 0)).does(x -> x.file(0, 0x34333231))
                    .has(0, "abcd=1234");
            State.of("abcd abcd/efgh", "").then(x -> x.path(0x64636261, 0x6766652f, 0x6a692f68))
                    .does(x -> x.directory(0)).has(0, "abcd abcd/efgh abcd/efgh/ij");
            State.of("a=", "").does(x -> x.add(0, 0x34333231)).does(x -> x.add(0, 0x38373635))
                    .has(0, "a=12345678");
        });
        sentence("the lowest byte first, up to the highest int", () -> {
            State low = State.of("a=", "").does(x -> x.file(0, Integer.MIN_VALUE));
            low.answers(1, x -> x.entry(0, 0, 2));
            low.answers(128, x -> x.entry(0, 0, 16));
            State all = State.of("a=", "").does(x -> x.file(0, -1));
            all.answers(4, x -> x.entry(0, 0, 2));
            all.answers(255, x -> x.entry(0, 0, 19));
            State high = State.of("a=", "").does(x -> x.file(0, Integer.MAX_VALUE));
            high.answers(255, x -> x.entry(0, 0, 16));
            high.answers(127, x -> x.entry(0, 0, 19));
            high.does(x -> x.changes(1)).hasLayer("<2><1>a<4><0><255><255><255><127>");
        });
        sentence("bytes that are 0 are left out", () -> {
            State.of("a", "").then(x -> x.path('a' << 24, '/' << 8, 'b' << 16)).does(x -> x.directory(0))
                    .has(0, "a a/b");
            State.of("a=", "").does(x -> x.file(0, '1' | '2' << 24)).has(0, "a=12");
            State.of("a=1", "").does(x -> x.add(0, '2' << 16)).has(0, "a=12");
            State.of("a=1", "").does(x -> x.add(0, 0)).has(0, "a=1");
            State.of("a=1", "").does(x -> x.file(0, 0)).has(0, "a=");
            State.of("a=1", "").does(x -> x.move(0, 0, 'b' << 24, 'c')).has(0, "bc=1");
        });
        sentence("NONE = -1", () -> due("NONE", TreeChanges.NONE, -1));
    }

    /** Beside each wrong tree all else that could be wrong is wrong too, one after the other. */
    private static void noSuchTree() {
        sentence("Calls that take a tree: IllegalArgumentException if there is none such", () -> {
            State state = State.of("a a/b=" + SIXTEEN, "c=1 d").does(x -> x.changes(1)).at("a/b");
            for (int tree : NO_TREES) {
                state.at("e").refuses(IAE, x -> x.directory(tree));
                state.at("e").refuses(IAE, x -> x.file(tree, 1));
                state.refuses(IAE, x -> x.add(tree, 0));
                state.refuses(IAE, x -> x.remove(tree));
                state.refuses(IAE, x -> x.move(tree, 'e', 0, 0));
                state.refuses(IAE, x -> x.copy(tree, 1));
                state.refuses(IAE, x -> x.copy(0, tree));
                state.refuses(IAE, x -> x.copy(tree, tree));
                state.refuses(IAE, x -> x.changes(tree));
                state.refuses(IAE, x -> x.apply(tree));
                state.refuses(IAE, x -> x.entries(tree));
                state.refuses(IAE, x -> x.entry(tree, 0, 0));
            }
        });
        sentence("ahead of all else", () -> {
            State full = State.of(numbered("m", 0, 39, "=1") + " n=" + SIXTEEN, "z=1").does(x -> x.changes(1));
            for (int tree : NO_TREES) {
                for (String signs : new String[] {"", "a", "a/b", "n", "n/a"}) {
                    State state = full.at(signs);
                    state.throwing(IAE, x -> x.directory(tree));
                    state.throwing(IAE, x -> x.file(tree, 1));
                    state.throwing(IAE, x -> x.add(tree, 1));
                    state.throwing(IAE, x -> x.remove(tree));
                    state.throwing(IAE, x -> x.move(tree, 'z', 0, 0));
                    state.throwing(IAE, x -> x.move(tree, 0, 0, 0));
                }
                full.throwing(IAE, x -> x.apply(tree));
                full.throwing(IAE, x -> x.entry(tree, -1, -1));
                full.throwing(IAE, x -> x.entry(tree, 40, 0));
            }
        });
    }

    private static void refusedCalls() {
        sentence("A call that throws changes nothing.", () -> {
            State state = State.of("a a/b=" + SIXTEEN + " a/c=2 d", "a e=3").does(x -> x.changes(0))
                    .at("a").does(x -> x.remove(0)).grown(0, "a a/b=" + SIXTEEN + " f");
            state.hasLayer("<4><1>a<0><0><3><1>d<0><0><2><1>e<1><0>3");
            state.at("a").refuses(ISE, x -> x.directory(0));
            state.at("a").refuses(ISE, x -> x.file(0, 1));
            state.at("a").refuses(ISE, x -> x.add(0, 1));
            state.at("a/b").refuses(UOE, x -> x.add(0, 1));
            state.at("c").refuses(ISE, x -> x.remove(0));
            state.at("a").refuses(IAE, x -> x.move(0, 0, 0, 0));
            state.at("a").refuses(ISE, x -> x.move(0, 'd', 0, 0));
            state.at("a").refuses(IAE, x -> x.copy(0, 2));
            state.at("a").refuses(IAE, x -> x.changes(2));
            state.at("a").refuses(IOOBE, x -> x.layer(-1));
            state.at("a").refuses(ISE, x -> x.apply(1));
            state.at("a").refuses(IAE, x -> x.entries(2));
            state.at("a").refuses(IAE, x -> x.entry(0, 0, 32));
            state.at("a").refuses(IOOBE, x -> x.entry(0, 9, 0));
        });
        sentence("A call that throws changes nothing: not when items were done before it", () -> {
            State state = layerFor("b b/x b/y c=1 e=1 g", "a d=2 b b/z c f=3 g g/h", "b b/p c=5 e=6 k=7");
            state.hasLayer("<1><1>a<0><0><4><1>b<0><0><1><3>b/z<0><0><1><1>c<0><0><2><1>d<1><0>2"
                    + "<3><1>e<0><0><2><1>f<1><0>3<1><3>g/h<0><0>");
            state.at("k").refuses(ISE, x -> x.apply(0));
        });
    }

    public static void main(String[] args) {
        calls();
        paths();
        trees();
        order();
        changesOfNewPaths();
        changesOfEmptied();
        changesOfGone();
        layers();
        applied();
        notApplied();
        ints();
        noSuchTree();
        refusedCalls();
        finish();
    }
}
