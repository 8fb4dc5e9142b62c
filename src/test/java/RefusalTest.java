import java.util.ArrayList;
import java.util.List;

/**
 * "A call that throws changes nothing. Of several exceptions that one is thrown which the call names first." In each
 * state that an object can be in, each call that is refused there is made, and all that can be asked behind it is as
 * without it; and each call that is taken changes no more than the document says.
 */
public final class RefusalTest extends Checks {
    private static final String FULL = XOR + " ".repeat(1600 - XOR.length());

    /** A call that is refused. */
    private record Refused(String name, int a, int b, Class<?> by) {
    }

    private final Forge forge;
    private final String state;
    private final List<Refused> refused = new ArrayList<>();

    private RefusalTest(String state, Forge forge) {
        this.state = state;
        this.forge = forge;
    }

    public static void main(String[] args) {
        inState("a new object", new Forge()).noNetlist().noCover().noLibrary().nothingMapped().test();
        inState("a text that was not read", with(XOR)).noNetlist().noCover().noLibrary().nothingMapped().test();
        inState("a fault", faulty()).noNetlist().noCover().noLibrary().nothingMapped().test();
        inState("a netlist", done(XOR)).netlist().noCover().noLibrary().nothingMapped().test();
        inState("a cover", covered("cover", 2)).netlist().cover().noLibrary().nothingMapped().test();
        inState("few cells", covered("coverFew", 5)).netlist().cover().noLibrary().nothingMapped().test();
        inState("a library", isLibrary(NANDS)).noNetlist().noCover().library().nothingMapped().test();
        inState("both", kit(done(XOR), NANDS)).netlist().noCover().library().nothingMapped().test();
        inState("a mapping", mappedBy(XOR, NANDS)).netlist().noCover().library().mapping().test();
        inState("a mapping and a cover", all()).netlist().cover().library().mapping().test();
        inState("a full text", with(FULL)).fullText().noNetlist().noCover().noLibrary().nothingMapped().test();
        inState("a full text that was read", full()).fullText().netlist().cover().noLibrary().nothingMapped().test();
        says("The text stays when it is read.", RefusalTest::textStays);
        says("put() and end() change the text alone", RefusalTest::textAlone);
        says("cover() and coverFew() change the cover alone", RefusalTest::coverAlone);
        says("map() changes the mapping alone", RefusalTest::mappingAlone);
        says("library() changes the library, the mapping and the line alone", RefusalTest::libraryAlone);
        says("balance(), reduce() and rewrite() leave the text, the line and the library", RefusalTest::graphAlone);
        says("what is asked changes nothing", RefusalTest::asked);
        says("an object that was used before answers as a new one", RefusalTest::usedBefore);
        says("an object answers as a new one behind faults and what was too great", RefusalTest::refusedBefore);
        endTests();
    }

    // ---- states

    private static RefusalTest inState(String state, Forge forge) {
        return new RefusalTest(state, forge).always();
    }

    private static Forge faulty() {
        Forge forge = with("\n\n.inputs a a");
        forge.read();
        return forge;
    }

    private static Forge covered(String call, int most) {
        Forge forge = done(XOR);
        forge.call(call, most, 0);
        return forge;
    }

    private static Forge all() {
        Forge forge = mappedBy(XOR, NANDS);
        forge.cover(2);
        return forge;
    }

    private static Forge full() {
        Forge forge = done(FULL);
        forge.cover(2);
        return forge;
    }

    // ---- what is refused there

    private RefusalTest add(Class<?> by, String name, int... arguments) {
        for (int k = 0; k < arguments.length; k += 2) {
            refused.add(new Refused(name, arguments[k], arguments[k + 1], by));
        }
        return this;
    }

    private RefusalTest always() {
        int size = forge.put(0);
        add(ARGUMENT, "put", 9, 0, 'x' | 31 << 8, 0, 'x' | 'y' << 8 | 'z' << 16 | 127 << 24, 0, -1, 0, LEAST, 0);
        return add(ARGUMENT, "end", -1, 0, LEAST, 0, size + 1, 0, GREATEST, 0);
    }

    private RefusalTest fullText() {
        add(TOO_GREAT, "put", 'x', 0, 'x' << 24, 0, 0x20202020, 0, 10, 0);
        return add(ARGUMENT, "put", 'x' | 9 << 8, 0, 9 | 'x' << 8, 0);
    }

    private RefusalTest noNetlist() {
        add(STATE, "graph", 0, 0, 3, 0, -1, 0, 4, 0);
        add(STATE, "gate", 0, 0, 3, 0, -1, -1, 3, 9);
        add(STATE, "output", 0, 0, -1, 0, 6, 0);
        add(STATE, "value", 0, 0, -1, 0, 256, 0);
        add(STATE, "balance", 0, 0).add(STATE, "reduce", 0, 0).add(STATE, "rewrite", 0, 0);
        add(STATE, "diagram", 0, 0, -1, 0, 0, -1, 9, 9);
        add(STATE, "differ", 0, 0, -1, 0, 0, 9);
        add(STATE, "cover", 2, 0, 1, 0, 6, 0).add(STATE, "coverFew", 5, 0, 1, 0, 6, 0);
        return add(STATE, "map", 0, 0);
    }

    private RefusalTest netlist() {
        add(ARGUMENT, "graph", -1, 0, 4, 0, LEAST, 0, GREATEST, 0);
        add(PLACE, "gate", 0, 0, 2, 0, 6, 0, -1, 0, -1, -1, 6, 3, LEAST, 9, GREATEST, 0);
        add(ARGUMENT, "gate", 3, -1, 3, 3, 5, LEAST, 5, GREATEST);
        add(PLACE, "output", -1, 0, 1, 0, LEAST, 0, GREATEST, 0);
        add(ARGUMENT, "value", -1, 0, 4, 0, LEAST, 0, GREATEST, 0);
        add(PLACE, "diagram", -1, 0, 1, 0, -1, -1, 1, 4);
        add(ARGUMENT, "diagram", 0, -1, 0, 4, 0, LEAST, 0, GREATEST);
        add(PLACE, "differ", 0, 1, 1, 0, -1, 0, 0, -1, LEAST, GREATEST);
        add(ARGUMENT, "cover", 1, 0, 6, 0, -1, 0, LEAST, 0, GREATEST, 0);
        return add(ARGUMENT, "coverFew", 1, 0, 6, 0, -1, 0, LEAST, 0, GREATEST, 0);
    }

    private RefusalTest noCover() {
        add(STATE, "depth", 0, 0);
        add(STATE, "cell", 0, 0, -1, 0, 0, -1, -1, -1);
        return add(STATE, "sign", 0, 0, -1, 0, GREATEST, 0);
    }

    private RefusalTest cover() {
        add(PLACE, "cell", 1, 0, -1, 0, -1, -1, 1, -1, 0, 6, 0, GREATEST, LEAST, LEAST);
        add(ARGUMENT, "cell", 0, -1, 0, LEAST);
        return add(PLACE, "sign", -1, 0, LEAST, 0);
    }

    private RefusalTest noLibrary() {
        add(PLACE, "libraryCell", 0, 0, -1, 0, 0, -1, 0, 4);
        return add(STATE, "map", 0, 0);
    }

    private RefusalTest library() {
        add(PLACE, "libraryCell", -1, 0, 2, 0, 2, 4, -1, -1, GREATEST, 9);
        return add(ARGUMENT, "libraryCell", 0, -1, 0, 4, 1, LEAST, 1, GREATEST);
    }

    private RefusalTest nothingMapped() {
        add(STATE, "mapped", 0, 0, -1, 0, 3, 0);
        add(STATE, "instance", 0, 0, -1, 0, 0, -1, -1, -1);
        return add(STATE, "mappedSign", 0, 0, -1, 0, GREATEST, 0);
    }

    private RefusalTest mapping() {
        add(ARGUMENT, "mapped", -1, 0, 3, 0, LEAST, 0, GREATEST, 0);
        add(PLACE, "instance", -1, 0, 5, 0, -1, -1, 5, -1, 0, 4, 4, 5, 4, GREATEST);
        add(ARGUMENT, "instance", 0, -1, 4, LEAST);
        return add(PLACE, "mappedSign", -1, 0, LEAST, 0);
    }

    private void test() {
        says("A call that throws changes nothing. (" + state + ")", () -> {
            List<String> before = allOf(forge);
            for (Refused call : refused) {
                String told = call.name + "(" + call.a + ", " + call.b + ")";
                Forge copy = forge.copy();
                thrown(told, call.by, () -> copy.call(call.name, call.a, call.b));
                thrown(told + " once more", call.by, () -> copy.call(call.name, call.a, call.b));
                same("behind " + told, allOf(copy), before);
            }
        });
    }

    // ---- what calls leave that are taken

    /** The answers that tell none of these: line, text, graph, cover, library, mapping. */
    private static List<String> without(Forge forge, String... parts) {
        List<String> told = answersOf(forge);
        for (String part : parts) {
            told.removeIf(answer -> partOf(answer).equals(part));
        }
        return told;
    }

    private static String partOf(String answer) {
        switch (answer.split("[ (]")[0]) {
            case "line": return "line";
            case "put": return "text";
            case "depth": case "cell": case "sign": return "cover";
            case "libraryCell": return "library";
            case "mapped": case "instance": case "mappedSign": return "mapping";
            default: return "graph";
        }
    }

    private static void textStays() {
        Forge forge = all();
        due("the library's text", forge.put(0), NANDS.length());
        due("library()", forge.library(), 0);
        due("library() again", forge.library(), 0);
        due("read() of it", forge.read(), 1);
        due("as many signs", forge.put(0), NANDS.length());
        forge.balance();
        forge.reduce();
        forge.rewrite();
        forge.cover(4);
        forge.map();
        due("as many signs", forge.put(0), NANDS.length());
        due("library() once more", forge.library(), 0);
    }

    private static void textAlone() {
        Forge forge = all();
        List<String> before = without(forge, "text");
        forge.put('x');
        same("behind put()", without(forge, "text"), before);
        forge.end(3);
        same("behind end()", without(forge, "text"), before);
        forge.end(0);
        same("behind end(0)", without(forge, "text"), before);
        feed(forge, ".inputs q\n.outputs q\n.end");
        same("behind more of put()", without(forge, "text"), before);
    }

    private static void coverAlone() {
        Forge forge = mappedBy(XOR, NANDS);
        List<String> before = without(forge, "cover");
        forge.cover(2);
        same("behind cover(2)", without(forge, "cover"), before);
        forge.coverFew(5);
        same("behind coverFew(5)", without(forge, "cover"), before);
    }

    private static void mappingAlone() {
        Forge forge = kit(done(XOR), NANDS);
        forge.cover(2);
        List<String> before = without(forge, "mapping");
        due("map()", forge.map(), 5);
        same("behind map()", without(forge, "mapping"), before);
        kit(forge, "cell and 1 1 0001\n.end");
        before = without(forge, "mapping");
        due("map() that can't", forge.map(), NONE);
        same("behind it", without(forge, "mapping"), before);
    }

    private static void libraryAlone() {
        Forge forge = all();
        anew(forge, "cell xor 1 1 0110\n.end");
        List<String> before = without(forge, "library", "mapping", "line");
        due("library()", forge.library(), 0);
        same("behind library()", without(forge, "library", "mapping", "line"), before);
    }

    private static void graphAlone() {
        String[] calls = {"balance", "reduce", "rewrite"};
        for (String call : calls) {
            Forge forge = mappedBy(".inputs a b c d\n.outputs y\n.names a b c d y\n1111 1\n1110 1\n.end", NANDS);
            forge.cover(2);
            due("read() of a library", forge.read(), 1);
            List<String> before = without(forge, "graph", "cover", "mapping");
            forge.call(call, 0, 0);
            same("behind " + call + "()", without(forge, "graph", "cover", "mapping"), before);
            due("line()", forge.line(), 0);
            for (int in = 0; in < 16; in++) {
                due("value(" + in + ") behind " + call + "()", forge.value(in), (in & 7) == 7 ? 1 : 0);
            }
        }
    }

    private static void asked() {
        Forge forge = all();
        List<String> before = allOf(forge);
        String[] calls = {"line", "graph", "gate", "output", "value", "diagram", "differ", "depth", "cell", "sign",
            "libraryCell", "mapped", "instance", "mappedSign"};
        for (String call : calls) {
            Forge copy = forge.copy();
            for (int a = 0; a < 4; a++) {
                askQuietly(copy, call, a);
            }
            same("behind " + call + "()", allOf(copy), before);
        }
    }

    private static final String[] CHANGES = {"balance", "rewrite", "reduce", "cover", "coverFew", "map"};

    /** The same on an object that has read, remade, covered and mapped other graphs, and on a new one. */
    private static void usedBefore() {
        String[] finals = {XOR, ".inputs a b c d e f g h\n.outputs h y z\n.names f g y\n11 1\n.names e d z\n"
                + "00 0\n.end"};
        for (String text : finals) {
            for (String change : CHANGES) {
                Forge used = isLibrary("cell nand 1 1 1110\ncell inv 1 1 10\ncell maj 1 1 00010111\n.end");
                String other = ".inputs a b c\n.outputs y z\n.names a b c y\n111 1\n10- 1\n011 1\n"
                        + ".names y a b z\n011 1\n.end";
                useTwice(used, other, change);
                Forge fresh = new Forge();
                for (Forge forge : new Forge[] {used, fresh}) {
                    kit(forge, NANDS);
                    anew(forge, text);
                    due("read()", forge.read(), 0);
                }
                same("read() behind " + change + "()", allOf(used), allOf(fresh));
                due(change + "()", used.call(change, 4, 0), fresh.call(change, 4, 0));
                same(change + "() behind " + change + "()", allOf(used), allOf(fresh));
            }
        }
    }

    private static void useTwice(Forge forge, String text, String change) {
        for (int n = 0; n < 2; n++) {
            anew(forge, text);
            due("read()", forge.read(), 0);
            askQuietly(forge, "value", 5);
            forge.call(change, 4, 0);
            forge.call(change, 4, 0);
            forge.cover(3);
            askQuietly(forge, "sign", 3);
        }
    }

    private static void refusedBefore() {
        String[] bad = {".inputs a b c\n.outputs c\n.names u v\n.names v u\n.end", ".inputs a b c\n.outputs q\n.end",
            ".inputs a\n.outputs a\n.names y\n" + "1\n".repeat(17), "cell a 1 1 10\ncell b 1 1 01\n"
                    + "cell b 1 1 10\n.end",
            ".inputs a\n.outputs a\n.names a\n", ofGates(201)};
        for (String text : bad) {
            Forge used = with(text);
            askQuietly(used, "read", 0);
            askQuietly(used, "library", 0);
            askQuietly(used, "read", 0);
            Forge fresh = new Forge();
            for (Forge forge : new Forge[] {used, fresh}) {
                kit(forge, NANDS);
                anew(forge, XOR);
                due("read()", forge.read(), 0);
            }
            same("behind <<" + text + ">>", allOf(used), allOf(fresh));
        }
    }

    private static void askQuietly(Forge forge, String call, int a) {
        try {
            forge.call(call, a, 0);
        } catch (RuntimeException e) {
            // Refused calls have their own tests.
        }
    }
}
