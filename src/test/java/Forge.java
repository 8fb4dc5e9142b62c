import java.util.ArrayList;
import java.util.List;
import java.util.Set;

/**
 * An object of the class that is never called more than 512 times, since the document promises nothing behind that:
 * a new one takes its place then, on which all calls that changed the old one, or threw, are made again.
 * With -Doracle=true Oracle stands in for the class, so that the answers that are due are held against it, too.
 */
final class Forge {
    private static final int MOST_CALLS = 512;
    private static final boolean BY_ORACLE = Boolean.getBoolean("oracle");
    private static final Set<String> CHANGING = Set.of("put", "end", "read", "balance", "reduce", "rewrite", "cover",
            "coverFew", "library", "map");

    private record Call(String name, int a, int b) {
    }

    private final List<Call> story = new ArrayList<>();
    private final boolean keepsRefused;
    private CellForge object;
    private Oracle oracle;
    private int calls;

    Forge() {
        this(true);
    }

    /** Where very many questions are refused, those can't all be asked again. */
    Forge(boolean keepsRefused) {
        this.keepsRefused = keepsRefused;
        makeAnew();
    }

    /** Another object, on which all has been done that was done on this one. */
    Forge copy() {
        Forge copy = new Forge(keepsRefused);
        copy.story.addAll(story);
        copy.replay();
        return copy;
    }

    private void makeAnew() {
        object = BY_ORACLE ? null : new CellForge();
        oracle = BY_ORACLE ? new Oracle() : null;
        calls = 0;
    }

    private void replay() {
        makeAnew();
        for (Call call : story) {
            try {
                make(call);
            } catch (RuntimeException e) {
                // It threw the first time, too.
            }
        }
    }

    private int make(Call call) {
        calls++;
        return BY_ORACLE ? Calls.of(oracle, call.name, call.a, call.b) : Calls.of(object, call.name, call.a, call.b);
    }

    int call(String name, int a, int b) {
        if (calls == MOST_CALLS) {
            replay();
        }
        if (calls == MOST_CALLS) {
            throw new AssertionError("the test makes more than 512 calls that it can't do without");
        }
        Call call = new Call(name, a, b);
        if (CHANGING.contains(name)) {
            story.add(call);
            return make(call);
        }
        try {
            return make(call);
        } catch (RuntimeException e) {
            if (keepsRefused) {
                story.add(call);
            }
            throw e;
        }
    }

    /** Whether so many calls more that change the object could still be made, and some questions asked. */
    boolean hasRoomFor(int more) {
        return story.size() + more <= MOST_CALLS - 40;
    }

    int put(int signs) {
        return call("put", signs, 0);
    }

    void end(int n) {
        call("end", n, 0);
    }

    int read() {
        return call("read", 0, 0);
    }

    int line() {
        return call("line", 0, 0);
    }

    int graph(int what) {
        return call("graph", what, 0);
    }

    int gate(int node, int what) {
        return call("gate", node, what);
    }

    int output(int k) {
        return call("output", k, 0);
    }

    int value(int inputs) {
        return call("value", inputs, 0);
    }

    int balance() {
        return call("balance", 0, 0);
    }

    int reduce() {
        return call("reduce", 0, 0);
    }

    int rewrite() {
        return call("rewrite", 0, 0);
    }

    int diagram(int k, int what) {
        return call("diagram", k, what);
    }

    int differ(int k, int l) {
        return call("differ", k, l);
    }

    int coverFew(int most) {
        return call("coverFew", most, 0);
    }

    int cover(int most) {
        return call("cover", most, 0);
    }

    int depth() {
        return call("depth", 0, 0);
    }

    int cell(int c, int what) {
        return call("cell", c, what);
    }

    int sign(int k) {
        return call("sign", k, 0);
    }

    int library() {
        return call("library", 0, 0);
    }

    int libraryCell(int i, int what) {
        return call("libraryCell", i, what);
    }

    int map() {
        return call("map", 0, 0);
    }

    int mapped(int what) {
        return call("mapped", what, 0);
    }

    int instance(int i, int what) {
        return call("instance", i, what);
    }

    int mappedSign(int k) {
        return call("mappedSign", k, 0);
    }
}
