import java.util.Arrays;

/** An object and the model beside it: each call asks both, and their answers must be the same. */
final class Twin {
    final Model model = new Model();
    private final TreeChanges real = new TreeChanges();
    private final String told;
    private int calls = 0;
    private boolean alike = true;

    /** What went wrong is told with this text. */
    Twin(String told) {
        this.told = told;
    }

    boolean isAlike() {
        return alike;
    }

    /** Makes the call, and gives the answer that is due. */
    String call(String name, int... v) {
        String got = Trials.answer(() -> ofReal(name, v));
        String want = Trials.answer(() -> model.call(name, v));
        calls++;
        alike = alike && got.equals(want);
        if (!got.equals(want)) {
            Trials.due(told + ", call " + calls + ": " + name + Arrays.toString(v), got, want);
        }
        return want;
    }

    private int ofReal(String name, int[] v) {
        switch (name) {
            case "path": return real.path(v[0], v[1], v[2]) ? 1 : 0;
            case "directory": real.directory(v[0]); return 0;
            case "file": real.file(v[0], v[1]); return 0;
            case "add": real.add(v[0], v[1]); return 0;
            case "remove": real.remove(v[0]); return 0;
            case "move": real.move(v[0], v[1], v[2], v[3]); return 0;
            case "copy": real.copy(v[0], v[1]); return 0;
            case "changes": return real.changes(v[0]);
            case "layer": return real.layer(v[0]);
            case "apply": real.apply(v[0]); return 0;
            case "same": return real.same() ? 1 : 0;
            case "entries": return real.entries(v[0]);
            default: return real.entry(v[0], v[1], v[2]);
        }
    }

    void at(String signs) {
        call("path", Trials.word(signs, 0), Trials.word(signs, 1), Trials.word(signs, 2));
    }
}
