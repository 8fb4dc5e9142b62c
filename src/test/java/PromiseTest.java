/** For each promise of the document: ordinary inputs, the edges that it names, and wrong inputs, found by hand. */
public final class PromiseTest extends Checks {
    private static final String AND4 = ".inputs a b c d\n.outputs y\n.names a b c d y\n1111 1\n.end\n";
    private static final String CHOICE = ".inputs a b\n.outputs y\n.names a b y\n11 1\n10 1\n.end\n";
    private static final String PAIRS = ".inputs a b c d\n.outputs C\n.names d c A\n11 1\n.names b a B\n11 1\n"
            + ".names A B C\n11 1\n.end\n";
    private static final String WIRES = ".inputs a b\n.outputs a zero one not\n.names zero\n.names one\n1\n"
            + ".names b not\n0 1\n.end\n";

    public static void main(String[] args) {
        says("Promise 1: a new object", PromiseTest::newObject);
        says("Promise 2: put", PromiseTest::put);
        says("Promise 3: end", PromiseTest::end);
        says("Promise 4: read", PromiseTest::read);
        says("Promise 5: line", PromiseTest::line);
        says("Promise 6: graph", PromiseTest::graph);
        says("Promise 7: gate", PromiseTest::gate);
        says("Promise 8: output", PromiseTest::output);
        says("Promise 9: value", PromiseTest::value);
        says("Promise 10: balance", PromiseTest::balance);
        says("Promise 11: reduce", PromiseTest::reduce);
        says("Promise 12: rewrite", PromiseTest::rewrite);
        says("Promise 13: diagram", PromiseTest::diagram);
        says("Promise 14: differ", PromiseTest::differ);
        says("Promise 15: coverFew", PromiseTest::coverFew);
        says("Promise 16: cover", PromiseTest::cover);
        says("Promise 17: depth", PromiseTest::depth);
        says("Promise 18: cell", PromiseTest::cell);
        says("Promise 19: sign", PromiseTest::sign);
        says("Promise 20: library", PromiseTest::library);
        says("Promise 21: libraryCell", PromiseTest::libraryCell);
        says("Promise 22: map", PromiseTest::map);
        says("Promise 23: mapped", PromiseTest::mapped);
        says("Promise 24: instance", PromiseTest::instance);
        says("Promise 25: mappedSign", PromiseTest::mappedSign);
        says("The text stays when it is read.", PromiseTest::whatStays);
        endTests();
    }

    // ---- promises 1 to 5

    private static void newObject() {
        Forge forge = new Forge();
        due("NONE", CellForge.NONE, -1);
        due("line()", forge.line(), NONE);
        due("put(0)", forge.put(0), 0);
        needNoNetlist(forge);
        thrown("depth()", STATE, () -> forge.depth());
        thrown("sign(0)", STATE, () -> forge.sign(0));
        thrown("sign(-1)", STATE, () -> forge.sign(-1));
        thrown("cell(-1, -1)", STATE, () -> forge.cell(-1, -1));
        thrown("libraryCell(0, 0)", PLACE, () -> forge.libraryCell(0, 0));
        thrown("mapped(9)", STATE, () -> forge.mapped(9));
        thrown("instance(-1, -1)", STATE, () -> forge.instance(-1, -1));
        thrown("mappedSign(-1)", STATE, () -> forge.mappedSign(-1));
        due("read()", forge.read(), 1);
        due("line()", forge.line(), 1);
    }

    private static void needNoNetlist(Forge forge) {
        thrown("graph(9)", STATE, () -> forge.graph(9));
        thrown("gate(-1, 9)", STATE, () -> forge.gate(-1, 9));
        thrown("output(-1)", STATE, () -> forge.output(-1));
        thrown("value(-1)", STATE, () -> forge.value(-1));
        thrown("balance()", STATE, () -> forge.balance());
        thrown("reduce()", STATE, () -> forge.reduce());
        thrown("rewrite()", STATE, () -> forge.rewrite());
        thrown("diagram(-1, 9)", STATE, () -> forge.diagram(-1, 9));
        thrown("differ(-1, 0)", STATE, () -> forge.differ(-1, 0));
        thrown("cover(9)", STATE, () -> forge.cover(9));
        thrown("coverFew(9)", STATE, () -> forge.coverFew(9));
        thrown("map()", STATE, () -> forge.map());
    }

    private static void put() {
        Forge forge = new Forge();
        due("four signs", forge.put('.' | 'i' << 8 | 'n' << 16 | 'p' << 24), 4);
        due("two signs", forge.put('u' << 8 | 't' << 24), 6);
        due("one sign", forge.put('s'), 7);
        for (char sign : " a\n.outputs a\n.end".toCharArray()) {
            forge.put(sign << 16);
        }
        due("read() of signs that were put in order", forge.read(), 0);
        int[] bad = {1, 9, 11, 13, 31, 127, 128, 255, 'a' | 31 << 24, 'a' | 127 << 8, -1, 200 << 24, 10 | 9 << 16};
        for (int signs : bad) {
            thrown("put(" + signs + ")", ARGUMENT, () -> forge.put(signs));
        }
        due("put(0) behind those", forge.put(0), 25);
        due("the least and greatest signs", forge.put(32 | 126 << 8 | 10 << 16), 28);
        feed(forge, " ".repeat(1570));
        thrown("three more than 1600 hold", TOO_GREAT, () -> forge.put(0x202020));
        thrown("both faults", ARGUMENT, () -> forge.put(0x09202020));
        due("nothing was put", forge.put(0), 1598);
        due("the last two", forge.put(0x20200000), 1600);
        due("none more", forge.put(0), 1600);
        thrown("the 1601st", TOO_GREAT, () -> forge.put(32));
        due("still as many", forge.put(0), 1600);
    }

    private static void end() {
        Forge forge = with(XOR);
        int size = XOR.length();
        thrown("end(-1)", ARGUMENT, () -> ended(forge, -1));
        thrown("end(size + 1)", ARGUMENT, () -> ended(forge, size + 1));
        due("end(size)", ended(forge, size), size);
        due("read() of all", forge.read(), 0);
        due("end(size - 1)", ended(forge, size - 1), size - 1);
        due("read() without the last line end", forge.read(), 0);
        due("end(size - 2)", ended(forge, size - 2), size - 2);
        due("read() of .en", forge.read(), 1);
        due("end(0)", ended(forge, 0), 0);
        thrown("end(1) of none", ARGUMENT, () -> ended(forge, 1));
        Forge full = with(" ".repeat(1600));
        due("end(1600)", ended(full, 1600), 1600);
        thrown("end(1601)", ARGUMENT, () -> ended(full, 1601));
    }

    private static void read() {
        fault("", 1, 1);
        fault("\n\n", 1, 3);
        fault("\n".repeat(1600), 1, 1601);
        fault("# .inputs a", 1, 1);
        fault(".inputs", 1, 0);
        fault(".inputs a b c d e f g h i", 1, 0);
        fault(".inputs a b c d e f g a i j k", 1, 0);
        fault(".inputs abcdefghi", 1, 0);
        fault(".inputs a-b", 1, 0);
        fault(".inputs a a!", 1, 0);
        fault(".inputs a b a\n.outputs", 2, 0);
        fault(".outputs a\n.inputs a\n.end", 1, 0);
        fault(".inputs a", 1, 1);
        fault(".inputs a\n", 1, 2);
        fault(".inputs a\n.outputs\n.end", 1, 1);
        fault(".inputs a\n.outputs a a\n.end", 2, 1);
        fault(".inputs a b c d e f g h\n.outputs a b c d e f g\n.end", 1, 1);
        fault(".inputs a\n.outputs a\n.outputs a\n.end", 1, 2);
        fault(".inputs a\n.outputs a\n.inputs b\n.end", 1, 2);
        fault(".inputs a\n.outputs a\n1 1\n.end", 1, 2);
        fault(".inputs a\n.outputs a\n.end .end", 1, 2);
        fault(".inputs a\n.outputs a\n.ends", 1, 2);
        fault(".inputs a\n.outputs a\n.end\n.end", 1, 3);
        fault(".inputs a\n.outputs a\n", 1, 3);
        fault(".inputs a\n.outputs a\n.names\n.end", 1, 2);
        fault(".inputs a\n.outputs a\n.names a a a a a a y\n.end", 1, 2);
        fault(".inputs a\n.outputs a\n.names a a.a y\n.end", 1, 2);
        fault(".inputs a\n.outputs a\n.names b a\n.end", 2, 2);
        fault(".inputs a\n.outputs y\n.names a y\n.names a y\n.end", 2, 3);
        fault(".inputs a\n.outputs y\n.names y! y\n.names a y\n.end", 1, 2);
        rowFaults();
        fault(".inputs a\n.outputs y a z\n.end", 3, 1);
        fault("\n.inputs a\n\n.outputs a\n.names q y\n.names r z\n.end", 3, 4);
        fault(".inputs a\n.outputs y\n.names y y\n.names b z\n.end", 3, 3);
        fault(".inputs a\n.outputs a\n.names u v\n.names v u\n.end", 4, 2);
        fault(".inputs a\n.outputs y\n.names a t y\n.names u t\n.names t u\n.end", 4, 3);
        fault(".inputs a\n.outputs a\n.names y a y\n.end", 4, 2);
        fault(".inputs a\n.outputs a\n.end\n", 0, NONE);
        fault("# x\n  .inputs   a#b\n \n.outputs a # y\n# .names\n  .end  #\n\n#", 0, NONE);
        fault(".inputs a A _ 0\n.outputs A a _ 0\n.end", 0, NONE);
        fault(".inputs abcdefgh b c d e f g h\n.outputs abcdefgh b c d e f\n.end", 0, NONE);
        fault(".inputs a\n.outputs y\n.names z y\n1 1\n.names a z\n0 1\n.end", 0, NONE);
        fault(".inputs a\n.outputs y\n.names a a a a a y\n1-0-1 1\n.end", 0, NONE);
        tablesAndRows();
        building();
    }

    private static void rowFaults() {
        String head = ".inputs a b\n.outputs y\n.names a b y\n";
        fault(head + "1 1\n.end", 1, 3);
        fault(head + "111 1\n.end", 1, 3);
        fault(head + "11\n.end", 1, 3);
        fault(head + "11 1 1\n.end", 1, 3);
        fault(head + "1 1 1\n.end", 1, 3);
        fault(head + "12 1\n.end", 1, 3);
        fault(head + "11 -\n.end", 1, 3);
        fault(head + "11 2\n.end", 1, 3);
        fault(head + "11 11\n.end", 1, 3);
        fault(head + "11 1\n10 0\n.end", 1, 4);
        fault(head + "11 0\n10 0\n--    0\n.end", 0, NONE);
        fault(".inputs a\n.outputs y\n.names y\n1 1\n.end", 1, 3);
        fault(".inputs a\n.outputs y\n.names y\n-\n.end", 1, 3);
        fault(".inputs a\n.outputs y\n.names y\n1\n0\n.end", 1, 4);
        fault(".inputs a\n.outputs y\n.names y\n0\n0\n.end", 0, NONE);
        fault(".inputs a\n.outputs y\n.names y\n.end", 0, NONE);
    }

    private static void tablesAndRows() {
        StringBuilder rows = new StringBuilder(".inputs a\n.outputs y\n.names a y\n");
        rows.append("1 1\n".repeat(16));
        fault(rows + ".end", 0, NONE);
        fault(rows + "1 1\n.end", 1, 19);
        StringBuilder tables = new StringBuilder(".inputs a\n.outputs t29\n.names a t0\n1 1\n");
        for (int t = 1; t < 30; t++) {
            tables.append(".names t").append(t - 1).append(" t").append(t).append("\n0 1\n");
        }
        fault(tables + ".end", 0, NONE);
        fault(tables + ".names t0\n.end", 1, 62);
        Forge forge = with(tables + ".end");
        forge.read();
        due("a chain of thirty tables", forge.output(0), 3);
    }

    private static void building() {
        Forge forge = done(XOR);
        due("row 10 first", forge.gate(3, 0) * 100 + forge.gate(3, 1), 205);
        due("then row 01", forge.gate(4, 0) * 100 + forge.gate(4, 1), 304);
        due("then OR", forge.gate(5, 0) * 100 + forge.gate(5, 1), 709);
        due("its opposite", forge.output(0), 11);
        Forge unasked = done(".inputs a b\n.outputs y\n.names t a y\n-1 1\n.names a b t\n11 1\n.end");
        due("a table that no row asks is built", unasked.graph(2), 1);
        due("and not used", unasked.output(0), 2);
        Forge unneeded = done(".inputs a b\n.outputs a\n.names a b t\n11 1\n.end");
        due("a table that no output needs is not built", unneeded.graph(2), 0);
        Forge wires = done(WIRES);
        due("an input", wires.output(0), 2);
        due("no rows", wires.output(1), 0);
        due("a row without inputs", wires.output(2), 1);
        due("the opposite", wires.output(3), 5);
        Forge zeros = done(".inputs a b\n.outputs y z w\n.names a b y\n11 0\n.names z\n0\n.names a w\n- 0\n.end");
        due("rows that end with 0", zeros.output(0), 7);
        due("0 without inputs", zeros.output(1), 0);
        due("- alone, ending with 0", zeros.output(2), 0);
        Forge twice = done(".inputs a b\n.outputs y z\n.names a a y\n10 1\n.names a b a b z\n1111 1\n.end");
        due("AND of opposites", twice.output(0), 0);
        due("AND of the same, (a b) a, ((a b) a) b", twice.graph(2), 3);
    }

    private static void line() {
        Forge forge = new Forge();
        due("line() of a new object", forge.line(), NONE);
        feed(forge, "\n\n.inputs 1-1\n");
        due("read()", forge.read(), 1);
        due("line()", forge.line(), 2);
        due("library()", forge.library(), 1);
        due("line() of library()", forge.line(), 2);
        forge.end(0);
        feed(forge, XOR);
        due("line() before it is read", forge.line(), 2);
        forge.read();
        due("line() without a fault", forge.line(), NONE);
        due("library() of tables", forge.library(), 1);
        due("line() of library()", forge.line(), 0);
        forge.end(0);
        feed(forge, NANDS);
        due("library()", forge.library(), 0);
        due("line() of a library", forge.line(), NONE);
    }

    // ---- promises 6 to 9

    private static void graph() {
        Forge forge = done(XOR);
        due("inputs", forge.graph(0), 2);
        due("outputs", forge.graph(1), 1);
        due("gates", forge.graph(2), 3);
        due("level", forge.graph(3), 2);
        thrown("graph(-1)", ARGUMENT, () -> forge.graph(-1));
        thrown("graph(4)", ARGUMENT, () -> forge.graph(4));
        due("level of wires", done(WIRES).graph(3), 0);
        Forge unasked = done(".inputs a b\n.outputs y\n.names t a y\n-1 1\n.names a b t\n11 1\n.end");
        due("gates that no output needs, too", unasked.graph(2), 1);
        due("their level doesn't count", unasked.graph(3), 0);
        Forge again = done(AND4);
        again.end(0);
        feed(again, ".inputs a b c d e f g h\n.outputs y\n.names g h y\n11 1\n.end");
        again.read();
        due("inputs where gates were", again.graph(3), 1);
    }

    private static void gate() {
        Forge forge = done(XOR);
        due("x", forge.gate(5, 0), 7);
        due("y", forge.gate(5, 1), 9);
        due("level", forge.gate(5, 2), 2);
        due("level", forge.gate(4, 2), 1);
        thrown("gate(0, 0)", PLACE, () -> forge.gate(0, 0));
        thrown("an input", PLACE, () -> forge.gate(2, 0));
        thrown("behind the last", PLACE, () -> forge.gate(6, 0));
        thrown("below 0", PLACE, () -> forge.gate(-1, 9));
        thrown("gate(5, 3)", ARGUMENT, () -> forge.gate(5, 3));
        thrown("gate(5, -1)", ARGUMENT, () -> forge.gate(5, -1));
    }

    private static void output() {
        Forge forge = done(WIRES);
        due("output(3)", forge.output(3), 5);
        thrown("output(4)", PLACE, () -> forge.output(4));
        thrown("output(-1)", PLACE, () -> forge.output(-1));
        Forge shared = done(".inputs a b\n.outputs y z\n.names a b y\n11 1\n.names b a z\n11 0\n.end");
        due("a gate", shared.output(0), 6);
        due("the opposite of the same", shared.output(1), 7);
    }

    private static void value() {
        Forge forge = done(XOR);
        int[] want = {0, 1, 1, 0};
        for (int in = 0; in < 4; in++) {
            due("value(" + in + ")", forge.value(in), want[in]);
        }
        thrown("value(4)", ARGUMENT, () -> forge.value(4));
        thrown("value(-1)", ARGUMENT, () -> forge.value(-1));
        thrown("value(MIN_VALUE)", ARGUMENT, () -> forge.value(Integer.MIN_VALUE));
        due("bit k is output k", done(WIRES).value(1), 1 | 4 | 8);
        due("bit k is output k", done(WIRES).value(2), 4);
        Forge eight = done(".inputs a b c d e f g h\n.outputs y z\n.names f g h y\n101 1\n.names h z\n1 1\n.end");
        due("value(160)", eight.value(160), 3);
        due("value(255)", eight.value(255), 2);
        due("value(95)", eight.value(95), 0);
        thrown("value(256)", ARGUMENT, () -> eight.value(256));
    }

    // ---- promises 10 to 12

    private static void balance() {
        Forge forge = done(AND4);
        due("level", forge.graph(3), 3);
        forge.cover(2);
        due("balance()", forge.balance(), 3);
        thrown("no cover", STATE, () -> forge.depth());
        due("level", forge.graph(3), 2);
        due("d and c first", forge.gate(5, 0) * 100 + forge.gate(5, 1), 608);
        due("then a and b", forge.gate(6, 0) * 100 + forge.gate(6, 1), 204);
        due("then both", forge.gate(7, 0) * 100 + forge.gate(7, 1), 1012);
        Forge used = done(".inputs a b c d\n.outputs y t\n.names a b t\n11 1\n.names t c d y\n111 1\n.end");
        due("an output's gate is not taken apart", used.balance(), 3);
        due("c and d first", used.gate(6, 0) * 100 + used.gate(6, 1), 608);
        due("then the output's", used.gate(7, 0) * 100 + used.gate(7, 1), 1012);
        Forge turned = done(".inputs a b c\n.outputs y\n.names a b t\n11 1\n.names t c y\n01 1\n.end");
        due("an opposite is not taken apart", turned.balance(), 2);
        due("its use", turned.gate(5, 0) * 100 + turned.gate(5, 1), 609);
        Forge spare = done(".inputs a b\n.outputs y\n.names t a y\n-1 1\n.names a b t\n11 1\n.end");
        due("what no output needs is left out", spare.balance(), 0);
        Forge same = done(".inputs a b c\n.outputs y\n.names t c y\n11 1\n.names a b c t\n111 1\n.end");
        due("c, c, a, b: the two alike are one", same.balance(), 2);
        due("gates that no output needs count as no use", unneededUse().balance(), 3);
    }

    /** The gate a b is used by y's and, once more, by a gate that no output needs. */
    private static Forge unneededUse() {
        Forge forge = done(".inputs a b c d\n.outputs y\n.names u t c d y\n-111 1\n.names t a u\n01 1\n"
                + ".names a b t\n11 1\n.end");
        due("four gates", forge.graph(2), 4);
        return forge;
    }

    private static void reduce() {
        Forge forge = done(CHOICE);
        due("gates", forge.graph(2), 3);
        forge.cover(2);
        due("reduce()", forge.reduce(), 2);
        thrown("no cover", STATE, () -> forge.depth());
        due("y is a", forge.output(0), 2);
        due("reduce() once more", forge.reduce(), 0);
        Forge fixed = done(".inputs a b\n.outputs y\n.names a b c y\n111 1\n.names a c\n0 1\n.end");
        due("(a b) and not a", fixed.graph(2), 2);
        due("only a b is left", fixed.reduce(), 1);
        due("y is 0", fixed.output(0), 0);
        Forge twins = done(".inputs a b c\n.outputs y z\n.names a b c y\n111 1\n.names c b a z\n111 0\n.end");
        due("two ways", twins.graph(2), 4);
        due("one way, and the beginning of the other", twins.reduce(), 3);
        due("z is y's opposite", twins.output(1), twins.output(0) ^ 1);
        due("y", twins.output(0), 10);
    }

    private static void rewrite() {
        Forge forge = done(CHOICE);
        forge.cover(2);
        due("rewrite()", forge.rewrite(), 2);
        thrown("no cover", STATE, () -> forge.depth());
        due("y is a", forge.output(0), 2);
        due("rewrite() once more", forge.rewrite(), 0);
        Forge xor = done(XOR);
        due("a sum as dear as what is freed is not taken", xor.rewrite(), 3);
        due("y", xor.output(0), 11);
        Forge more = done(".inputs a b c d\n.outputs G\n.names a d B\n11 1\n.names B b D\n11 1\n.names D a G\n"
                + "11 1\n.end");
        due("((a d) b) a", more.graph(2), 3);
        due("a b, (a b) d is cheaper, but the old gates stay", more.rewrite(), 4);
        due("a b", more.gate(7, 0) * 100 + more.gate(7, 1), 204);
        due("(a b) d", more.gate(8, 0) * 100 + more.gate(8, 1), 814);
        due("y", more.output(0), 16);
        Forge always = done(".inputs a b c\n.outputs y z\n.names a b a y\n110 1\n.names a c a t\n110 0\n"
                + ".names y t z\n01 1\n.end");
        due("a b, (a b) and not a, a c, (a c) and not a, neither", always.graph(2), 5);
        due("a b and a c are left", always.rewrite(), 2);
        due("a table of zeros", always.output(0), 0);
        due("a table of ones", always.output(1), 1);
        Forge great = done(manyGates());
        due("cover(4) of those", great.cover(4) > 0 ? 1 : 0, 1);
        int gates = great.graph(2);
        thrown("a 201st gate", TOO_GREAT, () -> great.rewrite());
        due("the gates stay", great.graph(2), gates);
        due("the cover stays", great.depth() > 0 ? 1 : 0, 1);
        Forge cuts = done(manyCutsOfFour());
        thrown("more than 300 cuts", TOO_GREAT, () -> cuts.rewrite());
        thrown("cover(4)", TOO_GREAT, () -> cuts.cover(4));
        due("cover(3)", cuts.cover(3) > 0 ? 1 : 0, 1);
    }

    private static String manyGates() {
        return woven("a b c d e", "Y X W V U T", "c a a A;e d a B;c b B C;b b D;B e c E;e A C F;C D G;C e H;G B I;"
                + "E C E J;F I K;I E L;L G M;I G K N;K J G O;J K P;L K P Q;P O P R;K M N S;O N T;M Q U;U P U V;"
                + "T V U W;P U S X;V U Y");
    }

    private static String manyCutsOfFour() {
        return woven("a b c d e f g h", "Ax", "h g g A;h A A B;g h h C;B B A D;A A D E;B E D F;E C E G;G F E H;"
                + "G G H I;I G I J;G I H K;J K I L;L L J M;J M M N;N M O;O L N P;O N N Q;P Q P R;O Q S;Q S S T;"
                + "S R S U;T S U V;U T U W;W T W X;X X U Y;Y X Y Z;Y Y Z Ax");
    }

    // ---- promises 13 and 14

    private static void diagram() {
        Forge forge = done(".inputs a b c\n.outputs y z w v\n.names b c y\n10 1\n01 1\n.names a y z\n10 1\n01 1\n"
                + ".names a b c w\n1-1 1\n01- 1\n.names c v\n0 1\n.end");
        int[][] want = {{3, 4, 2, 1}, {5, 4, 1, 0}, {3, 4, 2, 0}, {1, 4, 0, 2}};
        for (int k = 0; k < 4; k++) {
            for (int what = 0; what < 4; what++) {
                due("diagram(" + k + ", " + what + ")", forge.diagram(k, what), want[k][what]);
            }
        }
        Forge wires = done(WIRES);
        int[][] plain = {{1, 2, 1, 0}, {0, 0, NONE, NONE}, {0, 4, 0, NONE}, {1, 2, 0, 1}};
        for (int k = 0; k < 4; k++) {
            for (int what = 0; what < 4; what++) {
                due("diagram(" + k + ", " + what + ") of wires", wires.diagram(k, what), plain[k][what]);
            }
        }
        Forge eight = done(".inputs a b c d e f g h\n.outputs y\n.names g h y\n11 1\n.end");
        due("ones", eight.diagram(0, 1), 64);
        due("least", eight.diagram(0, 2), 192);
        due("first asked", eight.diagram(0, 3), 6);
        due("size", eight.diagram(0, 0), 2);
        Forge pairs = done(".inputs a b c d e f g h\n.outputs y z\n.names a e p\n11 1\n.names b f q\n11 1\n"
                + ".names c g r\n11 1\n.names d h s\n11 1\n.names p q r s y\n0000 0\n.names a b c d z\n0000 0\n.end");
        due("an order that parts the pairs", pairs.diagram(0, 0), 30);
        due("one question for each", pairs.diagram(1, 0), 4);
        thrown("diagram(-1, 9)", PLACE, () -> forge.diagram(-1, 9));
        thrown("diagram(4, 0)", PLACE, () -> forge.diagram(4, 0));
        thrown("diagram(0, 4)", ARGUMENT, () -> forge.diagram(0, 4));
        thrown("diagram(0, -1)", ARGUMENT, () -> forge.diagram(0, -1));
    }

    private static void differ() {
        Forge forge = done(".inputs a b\n.outputs x y z\n.names a b x\n11 1\n.names b a y\n0- 0\n-0 0\n"
                + ".names a b z\n1- 1\n.end");
        due("alike", forge.differ(0, 1), NONE);
        due("a without b", forge.differ(0, 2), 1);
        due("the other way", forge.differ(2, 1), 1);
        due("itself", forge.differ(2, 2), NONE);
        due("opposites differ at once", done(".inputs a\n.outputs a n\n.names a n\n0 1\n.end").differ(0, 1), 0);
        Forge late = done(".inputs a b c d e f g h\n.outputs y z\n.names y\n.names a h b c d z\n11111 1\n.end");
        due("a late one", late.differ(0, 1), 143);
        thrown("differ(-1, 0)", PLACE, () -> forge.differ(-1, 0));
        thrown("differ(0, 3)", PLACE, () -> forge.differ(0, 3));
        thrown("differ(3, 0)", PLACE, () -> forge.differ(3, 0));
        thrown("differ(0, -1)", PLACE, () -> forge.differ(0, -1));
    }

    // ---- promises 15 to 19

    private static void coverFew() {
        Forge forge = done(PAIRS);
        due("cover(3)", forge.cover(3), 3);
        due("coverFew(3)", forge.coverFew(3), 2);
        due("the last cell", forge.cell(1, 0), 7);
        due("a", forge.cell(1, 4), 1);
        due("b", forge.cell(1, 5), 2);
        due("the gate of c and d", forge.cell(1, 6), 5);
        due("its table", forge.cell(1, 2), 128);
        due("its depth", forge.cell(1, 3), 2);
        due("depth()", forge.depth(), 2);
        thrown("coverFew(1)", ARGUMENT, () -> forge.coverFew(1));
        thrown("coverFew(6)", ARGUMENT, () -> forge.coverFew(6));
        Forge wanted = done(".inputs a b c d\n.outputs C A\n.names b a A\n11 1\n.names d c B\n11 1\n"
                + ".names A B C\n11 1\n.end");
        due("a gate that is wanted costs nothing", wanted.coverFew(3), 2);
        due("it is taken", wanted.cell(1, 4), 3);
        due("with d", wanted.cell(1, 5), 4);
        Forge slow = done(".inputs a b c d\n.outputs y\n.names a b c d y\n1111 1\n.end");
        due("the depth stays the least", slow.coverFew(2), 3);
        due("depth()", slow.depth(), 3);
        thrown("301 cuts", TOO_GREAT, () -> done(cuts301()).coverFew(5));
        due("300 cuts", done(cuts300()).coverFew(5) > 0 ? 1 : 0, 1);
    }

    private static String cuts300() {
        return woven("a b c d e f g h", "L K J I H G", "f f h A;A h h B;h B B C;A B C D;C B D E;D E E F;F F D G;"
                + "E F F H;F G F I;I I I J;H H I K;J K K L");
    }

    private static String cuts301() {
        return woven("a b c d e f g", "O N M L K J",
                "f f g A;A g A B;A g B C;C A C D;D D C E;C C E F;D D F G;G E G H;"
                + "G G H I;I G I J;J J H K;I I J L;J K L M;M M L N;N N N O");
    }

    private static void cover() {
        Forge forge = done(AND4);
        due("cover(2)", forge.cover(2), 3);
        due("depth()", forge.depth(), 3);
        due("cover(3)", forge.cover(3), 2);
        due("depth()", forge.depth(), 2);
        due("of the same depth the cut of the fewest nodes", forge.cell(1, 1), 2);
        due("d and the gate of the others", forge.cell(1, 4) * 10 + forge.cell(1, 5), 46);
        due("that has all three", forge.cell(0, 0) * 10 + forge.cell(0, 1), 63);
        due("cover(4)", forge.cover(4), 1);
        due("cover(5)", forge.cover(5), 1);
        thrown("cover(1)", ARGUMENT, () -> forge.cover(1));
        thrown("cover(6)", ARGUMENT, () -> forge.cover(6));
        thrown("cover(-1)", ARGUMENT, () -> forge.cover(-1));
        due("the cover stays", forge.cell(0, 1), 4);
        due("wires have no cells", done(WIRES).cover(4), 0);
        due("300 cuts", done(cuts300()).cover(5) > 0 ? 1 : 0, 1);
        Forge great = done(cuts301());
        great.cover(4);
        int cells = great.cell(0, 0) * 1000 + great.depth();
        thrown("301 cuts", TOO_GREAT, () -> great.cover(5));
        due("the cover stays", great.cell(0, 0) * 1000 + great.depth(), cells);
        Forge both = done(".inputs a b\n.outputs y z\n.names a b y\n11 1\n.names a b z\n11 0\n.end");
        due("a gate is one cell", both.cover(2), 1);
    }

    private static void depth() {
        Forge forge = done(PAIRS);
        thrown("depth() before a cover", STATE, () -> forge.depth());
        forge.cover(2);
        due("depth()", forge.depth(), 2);
        forge.cover(4);
        due("depth()", forge.depth(), 1);
        Forge wires = done(WIRES);
        wires.cover(2);
        due("depth() of wires", wires.depth(), 0);
        forge.end(0);
        forge.read();
        due("a fault leaves the cover", forge.depth(), 1);
        feed(forge, XOR);
        forge.read();
        thrown("no cover behind read()", STATE, () -> forge.depth());
    }

    private static void cell() {
        Forge forge = done(XOR);
        thrown("cell(0, 0) before a cover", STATE, () -> forge.cell(0, 0));
        forge.cover(2);
        int[] want = {5, 2, 9, 1, 1, 2};
        for (int what = 0; what < 6; what++) {
            int asked = what;
            due("cell(0, " + what + ")", forge.cell(0, asked), want[what]);
        }
        thrown("cell(0, 6)", PLACE, () -> forge.cell(0, 6));
        thrown("cell(0, MAX_VALUE)", PLACE, () -> forge.cell(0, Integer.MAX_VALUE));
        thrown("cell(1, 0)", PLACE, () -> forge.cell(1, 0));
        thrown("cell(-1, -1)", PLACE, () -> forge.cell(-1, -1));
        thrown("cell(0, -1)", ARGUMENT, () -> forge.cell(0, -1));
        Forge five = done(".inputs a b c d e\n.outputs y\n.names a b c d e y\n11111 1\n.end");
        five.cover(5);
        due("the highest bit", five.cell(0, 2), Integer.MIN_VALUE);
        due("input 4", five.cell(0, 8), 5);
        thrown("input 5", PLACE, () -> five.cell(0, 9));
        Forge order = done(PAIRS);
        order.cover(2);
        due("by numbers of gates", order.cell(0, 0) * 100 + order.cell(1, 0) * 10 + order.cell(2, 0), 567);
        Forge unlikely = done(".inputs a b c\n.outputs y p q\n.names a b p\n11 1\n.names a c q\n01 1\n"
                + ".names p q y\n11 1\n.end");
        unlikely.cover(2);
        due("inputs that can't both be 1, all the same", unlikely.cell(2, 2), 8);
    }

    private static void sign() {
        Forge forge = done(XOR);
        thrown("sign(0) before a cover", STATE, () -> forge.sign(0));
        forge.cover(2);
        thrown("sign(-1)", PLACE, () -> forge.sign(-1));
        written("a cover", coverText(forge), ".inputs a b\n.outputs y\n.names a b n_5\n00 1\n11 1\n.names n_5 y\n"
                + "0 1\n.end\n");
        due("behind the end", forge.sign(coverText(forge).length()), NONE);
        due("far behind", forge.sign(Integer.MAX_VALUE), NONE);
        Forge wires = done(WIRES);
        wires.coverFew(2);
        written("wires", coverText(wires), ".inputs a b\n.outputs a zero one not\n.names a a\n1 1\n.names zero\n"
                + ".names one\n1\n.names b not\n0 1\n.end\n");
        Forge pairs = done(PAIRS);
        pairs.coverFew(3);
        written("few cells", coverText(pairs), ".inputs a b c d\n.outputs C\n.names c d n_5\n11 1\n"
                + ".names a b n_5 n_7\n111 1\n.names n_7 C\n1 1\n.end\n");
        pairs.cover(4);
        written("another cover", coverText(pairs), ".inputs a b c d\n.outputs C\n.names a b c d n_7\n1111 1\n"
                + ".names n_7 C\n1 1\n.end\n");
        readsAgain(coverText(forge), forge, 4);
    }

    private static void readsAgain(String text, Forge as, int count) {
        Forge again = done(text);
        for (int in = 0; in < count; in++) {
            due("what was written gives the same", again.value(in), as.value(in));
        }
    }

    // ---- promises 20 and 21

    private static void library() {
        noLibrary("", 1, 1);
        noLibrary(".end", 1, 0);
        noLibrary("\n# x\n", 1, 3);
        noLibrary("cell a 1 1 10", 1, 1);
        noLibrary("cell a 1 1 10\n.end x", 1, 1);
        noLibrary("cell a 1 1 10\n.end\n\n.end", 1, 3);
        noLibrary("cell a 1 1 10\n.end\ncell b 1 1 10", 1, 2);
        noLibrary("cells a 1 1 10\n.end", 1, 0);
        noLibrary("cell a 1 1\n.end", 1, 0);
        noLibrary("cell a 1 1 10 10\n.end", 1, 0);
        noLibrary("cell a.b 1 1 10\n.end", 1, 0);
        noLibrary("cell abcdefghi 1 1 10\n.end", 1, 0);
        noLibrary("cell a 1000 1 10\n.end", 1, 0);
        noLibrary("cell a -1 1 10\n.end", 1, 0);
        noLibrary("cell a 1 0 10\n.end", 1, 0);
        noLibrary("cell a 1 00 10\n.end", 1, 0);
        noLibrary("cell a 1 100 10\n.end", 1, 0);
        noLibrary("cell a 1 x 10\n.end", 1, 0);
        noLibrary("cell a 1 1 1\n.end", 1, 0);
        noLibrary("cell a 1 1 101\n.end", 1, 0);
        noLibrary("cell a 1 1 1-\n.end", 1, 0);
        noLibrary("cell a 1 1 1010101010101010\n.end", 1, 0);
        noLibrary("cell a 1 1 10\ncell a 2 2 0001\n.end", 2, 1);
        noLibrary("cell a 1 1 10\ncell a 2 2 001\n.end", 1, 1);
        noLibrary(XOR, 1, 0);
        Forge forge = with("# cells\n cell  a 0 1 10 # one\n\ncell A 999 99 00000001\n.end");
        due("library()", forge.library(), 0);
        due("line()", forge.line(), NONE);
        StringBuilder many = new StringBuilder();
        for (int i = 0; i < 12; i++) {
            many.append("cell c").append(i).append(" 1 1 0110\n");
        }
        due("twelve cells", with(many + ".end").library(), 0);
        noLibrary(many + "cell c0 1 1 01\n.end", 1, 12);
        anew(forge, "cell x 1 1 01\ncell x 1 1 01\n.end");
        due("a fault", forge.library(), 2);
        due("the library stays", forge.libraryCell(1, 0), 999);
        anew(forge, "cell x 7 3 01\n.end");
        due("another", forge.library(), 0);
        due("its cell", forge.libraryCell(0, 0), 7);
        thrown("no other", PLACE, () -> forge.libraryCell(1, 0));
    }

    private static void libraryCell() {
        Forge forge = with("cell inv 012 07 10\ncell nor 3 20 1000\ncell mux 999 99 01010011\n.end");
        forge.library();
        int[][] want = {{12, 7, 1, 1}, {3, 20, 2, 1}, {999, 99, 3, 0b11001010}};
        for (int i = 0; i < 3; i++) {
            for (int what = 0; what < 4; what++) {
                due("libraryCell(" + i + ", " + what + ")", forge.libraryCell(i, what), want[i][what]);
            }
        }
        thrown("libraryCell(3, 0)", PLACE, () -> forge.libraryCell(3, 0));
        thrown("libraryCell(-1, 9)", PLACE, () -> forge.libraryCell(-1, 9));
        thrown("libraryCell(0, 4)", ARGUMENT, () -> forge.libraryCell(0, 4));
        thrown("libraryCell(0, -1)", ARGUMENT, () -> forge.libraryCell(0, -1));
    }

    // ---- promises 22 to 25

    private static void map() {
        Forge forge = done(XOR);
        thrown("map() without a library", STATE, () -> forge.map());
        kit(forge, NANDS);
        due("map()", forge.map(), 5);
        kit(forge, "cell nand 2 2 1110\n.end");
        thrown("nothing is mapped behind library()", STATE, () -> forge.mapped(0));
        due("an opposite of an input can't be made", forge.map(), NONE);
        thrown("nothing is mapped", STATE, () -> forge.mapped(0));
        kit(forge, "cell xor 9 9 0110\n.end");
        due("one cell does", forge.map(), 1);
        kit(forge, "cell buf 1 1 01\ncell xnor 9 9 1001\n.end");
        due("one that gives the opposite does, if an input is turned", forge.map(), NONE);
        kit(forge, "cell inv 1 1 10\ncell xnor 9 9 1001\n.end");
        due("which an inverter does, or it is turned itself", forge.map(), 2);
        Forge wires = done(".inputs a b\n.outputs a zero one\n.names zero\n.names one\n1\n.end");
        kit(wires, "cell buf 1 1 01\n.end");
        due("nothing to make", wires.map(), 0);
        Forge none = new Forge();
        kit(none, NANDS);
        thrown("map() without a netlist", STATE, () -> none.map());
        dropped(done(XOR), 0);
        dropped(done(XOR), 1);
        dropped(done(XOR), 2);
        dropped(done(XOR), 3);
        kept(done(XOR));
    }

    private static void dropped(Forge forge, int by) {
        kit(forge, NANDS);
        forge.map();
        anew(forge, XOR);
        int did = by == 0 ? forge.balance() : by == 1 ? forge.reduce() : by == 2 ? forge.rewrite() : forge.read();
        thrown("nothing is mapped any more (" + by + ", " + did + ")", STATE, () -> forge.mapped(0));
    }

    private static void kept(Forge forge) {
        kit(forge, NANDS);
        forge.cover(3);
        forge.map();
        due("a mapping leaves the cover", forge.depth(), 1);
        forge.coverFew(2);
        due("a cover leaves the mapping", forge.mapped(0), 5);
        anew(forge, "cell");
        due("a library with a fault", forge.library(), 1);
        due("leaves the mapping", forge.mapped(0), 5);
        due("tables with a fault", forge.read(), 1);
        due("leave the mapping", forge.mapped(0), 5);
        kit(forge, NANDS);
        due("a library leaves the cover", forge.depth(), 1);
    }

    private static void mapped() {
        Forge forge = done(XOR);
        kit(forge, NANDS);
        thrown("mapped(0) before map()", STATE, () -> forge.mapped(0));
        forge.map();
        due("instances", forge.mapped(0), 5);
        due("area", forge.mapped(1), 8);
        due("time", forge.mapped(2), 5);
        thrown("mapped(3)", ARGUMENT, () -> forge.mapped(3));
        thrown("mapped(-1)", ARGUMENT, () -> forge.mapped(-1));
        Forge wires = done(WIRES);
        kit(wires, NANDS);
        due("one inverter", wires.map(), 1);
        due("its area", wires.mapped(1), 1);
        due("its time", wires.mapped(2), 1);
        Forge given = done(".inputs a\n.outputs a zero\n.names zero\n.end");
        kit(given, NANDS);
        given.map();
        due("no time", given.mapped(2), 0);
    }

    private static void instance() {
        Forge forge = done(XOR);
        kit(forge, NANDS);
        thrown("instance(0, 0) before map()", STATE, () -> forge.instance(0, 0));
        forge.map();
        int[][] want = {{3, 0, 1, 2}, {5, 0, 1, 4}, {7, 1, 3, 2, 5}, {9, 1, 3, 3, 4}, {11, 1, 5, 7, 9}};
        instances(forge, want);
        thrown("instance(0, 4)", PLACE, () -> forge.instance(0, 4));
        thrown("instance(2, 5)", PLACE, () -> forge.instance(2, 5));
        thrown("instance(5, 0)", PLACE, () -> forge.instance(5, 0));
        thrown("instance(-1, -1)", PLACE, () -> forge.instance(-1, -1));
        thrown("instance(0, -1)", ARGUMENT, () -> forge.instance(0, -1));
        Forge and = done(".inputs a b\n.outputs y\n.names a b y\n11 1\n.end");
        matched(and, "cell and 1 3 0001\ncell nand 9 1 1110\ncell inv 1 1 10\n.end",
                new int[][] {{6, 2, 2, 7}, {7, 1, 1, 2, 4}});
        matched(and, "cell and 1 2 0001\ncell nand 1 1 1110\ncell inv 1 1 10\n.end", new int[][] {{6, 0, 2, 2, 4}});
        matched(and, "cell and 2 2 0001\ncell nand 9 1 1110\ncell inv 1 1 10\n.end",
                new int[][] {{6, 2, 2, 7}, {7, 1, 1, 2, 4}});
        matched(and, "cell x 5 2 0001\ncell y 4 2 0001\ncell z 4 2 0001\n.end", new int[][] {{6, 1, 2, 2, 4}});
        matched(and, "cell nor 1 2 1000\ncell i 1 9 10\ncell j 5 1 10\ncell k 4 1 10\ncell l 4 1 10\n.end",
                new int[][] {{3, 3, 1, 2}, {5, 3, 1, 4}, {6, 0, 3, 3, 5}});
        matched(and, "cell cut 1 1 0100\ncell inv 1 1 10\n.end", new int[][] {{5, 1, 1, 4}, {6, 0, 2, 2, 5}});
        Forge three = done(".inputs a b c\n.outputs y\n.names a b c y\n111 1\n.end");
        int[][] byTwo = {{8, 0, 2, 2, 4}, {10, 0, 4, 6, 8}};
        matched(three, "cell and2 1 2 0001\ncell and3 1 3 00000001\n.end", new int[][] {{10, 1, 3, 2, 4, 6}});
        matched(three, "cell and2 1 2 0001\ncell and3 0 4 00000001\n.end", new int[][] {{10, 1, 4, 2, 4, 6}});
        matched(three, "cell and2 1 2 0001\ncell and3 1 4 00000001\n.end", byTwo);
        matched(three, "cell and2 0 2 0001\ncell and3 1 4 00000001\n.end", byTwo);
        matched(three, "cell and2 9 2 0001\ncell and3 1 5 00000001\n.end", byTwo);
    }

    private static void matched(Forge forge, String library, int[][] want) {
        kit(forge, library);
        due("map() with " + library, forge.map(), want.length);
        instances(forge, want);
    }

    private static void instances(Forge forge, int[][] want) {
        for (int i = 0; i < want.length; i++) {
            for (int what = 0; what < want[i].length; what++) {
                due("instance(" + i + ", " + what + ")", forge.instance(i, what), want[i][what]);
            }
        }
    }

    private static void mappedSign() {
        Forge forge = done(XOR);
        kit(forge, NANDS);
        thrown("mappedSign(0) before map()", STATE, () -> forge.mappedSign(0));
        forge.map();
        thrown("mappedSign(-1)", PLACE, () -> forge.mappedSign(-1));
        String want = ".inputs a b\n.outputs y\n.gate inv a m_1\n.gate inv b m_2\n.gate nand a m_2 m_3\n"
                + ".gate nand m_1 b m_4\n.gate nand m_3 m_4 m_5\n.names m_5 y\n1 1\n.end\n";
        written("a mapping", mappedText(forge), want);
        due("behind the end", forge.mappedSign(want.length()), NONE);
        due("far behind", forge.mappedSign(Integer.MAX_VALUE), NONE);
        Forge wires = done(WIRES);
        kit(wires, NANDS);
        wires.map();
        written("wires", mappedText(wires), ".inputs a b\n.outputs a zero one not\n.gate inv b m_2\n.names a a\n1 1\n"
                + ".names zero\n.names one\n1\n.names m_2 not\n1 1\n.end\n");
        Forge and = done(".inputs a b\n.outputs y\n.names a b y\n11 1\n.end");
        kit(and, "cell and 1 3 0001\n.end");
        and.map();
        written("a gate", mappedText(and), ".inputs a b\n.outputs y\n.gate and a b n_3\n.names n_3 y\n1 1\n.end\n");
        kit(and, "cell nand 9 1 1110\ncell inv 1 1 10\n.end");
        and.map();
        written("another library", mappedText(and), ".inputs a b\n.outputs y\n.gate inv m_3 n_3\n.gate nand a b m_3\n"
                + ".names n_3 y\n1 1\n.end\n");
    }

    /** A call that throws changes nothing, and the text stays when it is read. */
    private static void whatStays() {
        Forge forge = done(XOR);
        due("the text stays", forge.put(0), XOR.length());
        due("read() again", forge.read(), 0);
        anew(forge, ".inputs a b c\n.outputs q\n.end");
        due("a fault", forge.read(), 3);
        due("the inputs stay", forge.graph(0), 2);
        forge.cover(2);
        written("the names stay", coverText(forge).substring(0, 24), ".inputs a b\n.outputs y\n.");
    }
}
