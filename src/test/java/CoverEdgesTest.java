/** Promises 13 to 19 and section 3 of the terms: each sentence that names a boundary case has a test of its own. */
public final class CoverEdgesTest extends Checks {
    private static final String EIGHT = ".inputs a b c d e f g h\n";
    private static final String WIRES = ".inputs a b\n.outputs a zero one not\n.names zero\n.names one\n1\n"
            + ".names b not\n0 1\n.end\n";
    private static final String AND4 = ".inputs a b c d\n.outputs y\n.names a b c d y\n1111 1\n.end";
    private static final String PAIRS = ".inputs a b c d\n.outputs y\n.names p q y\n11 1\n.names a b p\n11 1\n"
            + ".names c d q\n11 1\n.end";

    public static void main(String[] args) {
        diagrams();
        covers();
        cuts();
        cells();
        fewCells();
        depthAndCell();
        writing();
        endTests();
    }

    // ---- promises 13 and 14

    private static void diagrams() {
        says("one asks the inputs in their order, each only if what is left of the function depends on it",
                CoverEdgesTest::asked);
        says("Its SIZE is how many unlike questions there are", CoverEdgesTest::sizes);
        says("those alike counting once (an input and what is left)", CoverEdgesTest::alikeOnce);
        says("1 for how many inputs it is 1", CoverEdgesTest::ones);
        says("2 the least inputs (a number, bit j input j) for which it is 1 (NONE)", CoverEdgesTest::leastInputs);
        says("3 the input that is asked first (NONE)", CoverEdgesTest::askedFirst);
        says("IndexOutOfBoundsException if there is no such output (diagram)", CoverEdgesTest::noSuchDiagram);
        says("IllegalArgumentException for another what. (diagram)", CoverEdgesTest::otherOfDiagram);
        says("The least inputs for which outputs k and l are unlike; NONE.", CoverEdgesTest::unlike);
        says("IndexOutOfBoundsException if there is no such output. (differ)", CoverEdgesTest::noSuchDiffer);
    }

    /** The output of an AND of all inputs, of their unlikeness, of the last one, of none. */
    private static Forge eight() {
        return done(EIGHT + ".outputs and xor h zero one nor\n.names p q and\n11 1\n.names a b c d p\n1111 1\n"
                + ".names e f g h q\n1111 1\n.names r s xor\n10 1\n01 1\n.names t u r\n10 1\n01 1\n.names v w s\n"
                + "10 1\n01 1\n"
                + ".names a b t\n10 1\n01 1\n.names c d u\n10 1\n01 1\n.names e f v\n10 1\n01 1\n.names g h w\n"
                + "10 1\n01 1\n"
                + ".names zero\n.names one\n1\n.names i j nor\n11 1\n.names a b c d i\n0000 1\n.names e f g h j\n"
                + "0000 1\n.end");
    }

    private static void asked() {
        Forge forge = done(".inputs a b c\n.outputs y z w\n.names b c y\n10 1\n01 1\n.names c z\n0 1\n"
                + ".names a b c w\n1-1 1\n01- 1\n.end");
        due("b, c, c", forge.diagram(0, 0), 3);
        due("b first", forge.diagram(0, 3), 1);
        due("c alone", forge.diagram(1, 0), 1);
        due("c first", forge.diagram(1, 3), 2);
        due("a, then b or c", forge.diagram(2, 0), 3);
        Forge hidden = done(".inputs a b\n.outputs y\n.names a b y\n11 1\n01 1\n.end");
        due("a row names a, but y is b", hidden.diagram(0, 0), 1);
        due("b first", hidden.diagram(0, 3), 1);
    }

    private static void sizes() {
        Forge forge = eight();
        int[] want = {8, 15, 1, 0, 0, 8};
        for (int k = 0; k < 6; k++) {
            due("size of output " + k, forge.diagram(k, 0), want[k]);
        }
        Forge pairs = done(EIGHT + ".outputs y\n.names p q r s y\n0000 0\n.names a e p\n11 1\n.names b f q\n11 1\n"
                + ".names c g r\n11 1\n.names d h s\n11 1\n.end");
        due("an order that parts the pairs", pairs.diagram(0, 0), 30);
    }

    private static void alikeOnce() {
        Forge forge = done(".inputs a b c\n.outputs y z\n.names a b c y\n1-1 1\n-11 1\n.names a b c z\n11- 1\n"
                + "0-1 1\n.end");
        due("a, b, and c once", forge.diagram(0, 0), 3);
        due("a, b, c", forge.diagram(1, 0), 3);
        due("b and its opposite are unlike", done(XOR).diagram(0, 0), 3);
        Forge shifted = done(".inputs a b c\n.outputs y\n.names a b c y\n11- 1\n0-1 1\n.end");
        due("b left and c left are unlike", shifted.diagram(0, 0), 3);
    }

    private static void ones() {
        Forge forge = eight();
        int[] want = {1, 128, 128, 0, 256, 1};
        for (int k = 0; k < 6; k++) {
            due("ones of output " + k, forge.diagram(k, 1), want[k]);
        }
        Forge one = done(".inputs a\n.outputs a y z\n.names y\n1\n.names z\n.end");
        due("of one input", one.diagram(0, 1), 1);
        due("both", one.diagram(1, 1), 2);
        due("none", one.diagram(2, 1), 0);
    }

    private static void leastInputs() {
        Forge forge = eight();
        int[] want = {255, 1, 128, NONE, 0, 0};
        for (int k = 0; k < 6; k++) {
            due("least inputs of output " + k, forge.diagram(k, 2), want[k]);
        }
        Forge never = done(".inputs a b\n.outputs y\n.names a b a y\n110 1\n.end");
        due("a gate that is 0", never.diagram(0, 2), NONE);
    }

    private static void askedFirst() {
        Forge forge = eight();
        int[] want = {0, 0, 7, NONE, NONE, 0};
        for (int k = 0; k < 6; k++) {
            due("asked first of output " + k, forge.diagram(k, 3), want[k]);
        }
        Forge never = done(".inputs a b\n.outputs y\n.names a b a y\n110 0\n.end");
        due("a gate that is 0, turned", never.diagram(0, 3), NONE);
        due("its size", never.diagram(0, 0), 0);
    }

    private static void noSuchDiagram() {
        Forge forge = done(XOR);
        int[] bad = {-1, 1, 2, 6, LEAST, GREATEST};
        for (int k : bad) {
            for (int what = -1; what <= 4; what++) {
                int asked = what;
                thrown("diagram(" + k + ", " + what + ")", PLACE, () -> forge.diagram(k, asked));
            }
        }
        Forge six = eight();
        due("the sixth output", six.diagram(5, 1), 1);
        thrown("a seventh", PLACE, () -> six.diagram(6, 0));
    }

    private static void otherOfDiagram() {
        Forge forge = done(XOR);
        int[] bad = {-1, 4, 5, LEAST, GREATEST};
        for (int what : bad) {
            thrown("diagram(0, " + what + ")", ARGUMENT, () -> forge.diagram(0, what));
        }
        due("diagram(0, 0)", forge.diagram(0, 0), 3);
        due("diagram(0, 3)", forge.diagram(0, 3), 0);
    }

    private static void unlike() {
        Forge forge = eight();
        due("an output and itself", forge.differ(1, 1), NONE);
        due("0 and 1", forge.differ(3, 4), 0);
        due("0 and the AND", forge.differ(3, 0), 255);
        due("the AND and 0", forge.differ(0, 3), 255);
        due("the last input and 0", forge.differ(2, 3), 128);
        due("the NOR and 0", forge.differ(5, 3), 0);
        due("the unlikeness and 0", forge.differ(1, 3), 1);
        Forge alike = done(".inputs a b\n.outputs y z n\n.names a b y\n11 1\n.names a b z\n0- 0\n-0 0\n"
                + ".names y n\n0 1\n.end");
        due("other gates, alike", alike.differ(0, 1), NONE);
        due("opposites", alike.differ(0, 2), 0);
        due("of one input", done(".inputs a\n.outputs a y\n.names y\n.end").differ(0, 1), 1);
    }

    private static void noSuchDiffer() {
        Forge one = done(XOR);
        Forge six = eight();
        int[] bad = {-1, 6, LEAST, GREATEST};
        for (int k : bad) {
            thrown("differ(" + k + ", 0)", PLACE, () -> six.differ(k, 0));
            thrown("differ(0, " + k + ")", PLACE, () -> six.differ(0, k));
            thrown("differ(" + k + ", " + k + ")", PLACE, () -> six.differ(k, k));
        }
        thrown("differ(0, 1) of one", PLACE, () -> one.differ(0, 1));
        thrown("differ(1, 0) of one", PLACE, () -> one.differ(1, 0));
        due("differ(5, 5)", six.differ(5, 5), NONE);
    }

    // ---- promises 15 and 16

    private static void covers() {
        says("COVERS, for a number K, 2 .. 5.", CoverEdgesTest::numbers);
        says("IllegalArgumentException if K is not 2 .. 5", CoverEdgesTest::otherNumbers);
        says("More than 300 cuts of any gate that aren't spare are too great.", CoverEdgesTest::manyCuts);
        says("of any gate", CoverEdgesTest::manyCutsUnneeded);
        says("Exceptions as for cover().", CoverEdgesTest::sameExceptions);
    }

    private static void numbers() {
        int[] cells = {4, 2, 2, 1};
        for (int most = 2; most <= 5; most++) {
            Forge forge = done(".inputs a b c d e\n.outputs y\n.names a b c d e y\n11111 1\n.end");
            due("cover(" + most + ")", forge.cover(most), cells[most - 2]);
            due("coverFew(" + most + ")", forge.coverFew(most), cells[most - 2]);
            due("the most inputs", forge.cell(0, 1), most == 2 ? 2 : most);
        }
    }

    private static void otherNumbers() {
        Forge forge = done(AND4);
        forge.cover(3);
        Forge before = forge.copy();
        int[] bad = {1, 6, 0, -1, 7, 300, LEAST, GREATEST};
        for (int most : bad) {
            thrown("cover(" + most + ")", ARGUMENT, () -> forge.cover(most));
            thrown("coverFew(" + most + ")", ARGUMENT, () -> forge.coverFew(most));
        }
        same("the cover stays", allOf(forge), allOf(before));
    }

    private static void manyCuts() {
        String[] most = {ofCutsOfThree(300), ofCutsOfFour(300), ofCutsOfFive(300)};
        String[] great = {ofCutsOfThree(301), ofCutsOfFour(301), ofCutsOfFive(301)};
        for (int k = 0; k < 3; k++) {
            Forge taken = done(most[k]);
            due("300 cuts for K " + (k + 3), taken.cover(k + 3) > 0 ? 1 : 0, 1);
            due("300 cuts for few cells", taken.coverFew(k + 3) > 0 ? 1 : 0, 1);
            Forge forge = done(great[k]);
            int most3 = k + 3;
            int less = k + 2;
            due("fewer for a lesser K", forge.cover(less) > 0 ? 1 : 0, 1);
            Forge before = forge.copy();
            thrown("301 cuts for K " + most3, TOO_GREAT, () -> forge.cover(most3));
            thrown("301 cuts for few cells", TOO_GREAT, () -> forge.coverFew(most3));
            same("the cover stays", allOf(forge), allOf(before));
            due("for a lesser K again", forge.coverFew(less) > 0 ? 1 : 0, 1);
        }
        for (int number = 2; number <= 5; number++) {
            due("200 gates with up to 200 cuts for K " + number, done(ofGates(200)).cover(number), 1);
        }
    }

    private static void manyCutsUnneeded() {
        String[] most = {ofCutsOfThree(300), ofCutsOfFour(300), ofCutsOfFive(300)};
        String[] great = {ofCutsOfThree(301), ofCutsOfFour(301), ofCutsOfFive(301)};
        for (int k = 0; k < 3; k++) {
            int number = k + 3;
            due("300 cuts", done(unneeded(most[k])).cover(number), 0);
            due("300 cuts", done(unneeded(most[k])).coverFew(number), 0);
            Forge forge = done(unneeded(great[k]));
            thrown("301 cuts", TOO_GREAT, () -> forge.cover(number));
            thrown("301 cuts", TOO_GREAT, () -> forge.coverFew(number));
            thrown("no cover", STATE, () -> forge.depth());
        }
    }

    private static void sameExceptions() {
        Forge none = new Forge();
        thrown("no netlist", STATE, () -> none.coverFew(3));
        thrown("no netlist, no such K", STATE, () -> none.coverFew(9));
        Forge great = done(ofCutsOfFour(301));
        thrown("no such K, too great", ARGUMENT, () -> great.coverFew(6));
        thrown("no such K, too great", ARGUMENT, () -> great.cover(6));
        thrown("too great", TOO_GREAT, () -> great.coverFew(4));
    }

    // ---- cuts

    private static void cuts() {
        says("A CUT of a gate is a set of nodes, at most K", CoverEdgesTest::atMost);
        says("(0 is in no set; of an input there is just itself alone)", CoverEdgesTest::inputsAlone);
        says("It is SPARE if another cut of the gate is a part of it.", CoverEdgesTest::spare);
        says("A cut's DEPTH is one more than the greatest depth of its nodes; of inputs 0", CoverEdgesTest::depths);
        says("of a gate the least of its cuts'", CoverEdgesTest::leastDepth);
        says("of those of this depth that aren't spare, one of the fewest nodes", CoverEdgesTest::fewestNodes);
        says("of several the one whose least node is least, then its next one, and so on",
                CoverEdgesTest::leastNodes);
        says("(Outputs that are 0 or inputs have the depth 0.)", CoverEdgesTest::wires);
    }

    private static void atMost() {
        for (int width = 2; width <= 6; width++) {
            StringBuilder text = new StringBuilder(EIGHT.substring(0, 7 + 2 * width) + "\n.outputs y\n");
            if (width == 6) {
                text.append(".names a b c d e p\n11111 1\n.names p f y\n11 1\n.end");
            } else {
                text.append(".names").append(EIGHT, 7, 7 + 2 * width).append(" y\n").append("1".repeat(width));
                text.append(" 1\n.end");
            }
            Forge forge = done(text.toString());
            for (int most = 2; most <= 5; most++) {
                due("one cell for " + width + " inputs, K " + most, forge.cover(most) == 1 ? 1 : 0,
                        width <= most ? 1 : 0);
            }
        }
    }

    private static void inputsAlone() {
        Forge forge = done(".inputs a b\n.outputs y\n.names a b y\n11 1\n.end");
        due("cover(5)", forge.cover(5), 1);
        isCell(forge, 0, 3, 8, 1, 1, 2);
        Forge zero = done(".inputs a b\n.outputs y\n.names z a b y\n011 1\n.names z\n.end");
        due("cover(5)", zero.cover(5), 1);
        isCell(zero, 0, 3, 8, 1, 1, 2);
    }

    private static void spare() {
        Forge forge = done(".inputs a b\n.outputs y\n.names a b a b a y\n01111 1\n11011 1\n11111 1\n1111- 1\n.end");
        due("gates", forge.graph(2), 14);
        due("with spare ones there were more than 300", forge.cover(5), 1);
        isCell(forge, 0, 16, 7, 1, 1, 2);
        due("coverFew(5)", forge.coverFew(5), 1);
        isCell(forge, 0, 16, 7, 1, 1, 2);
    }

    private static void depths() {
        Forge forge = done(".inputs a b c d\n.outputs y q\n.names p q y\n11 1\n.names a b c p\n111 1\n"
                + ".names c d q\n11 1\n.end");
        due("cover(2)", forge.cover(2), 4);
        int[] want = {1, 2, 1, 3};
        for (int c = 0; c < 4; c++) {
            due("depth of cell " + c, forge.cell(c, 3), want[c]);
        }
        due("the greatest", forge.depth(), 3);
    }

    private static void leastDepth() {
        Forge forge = done(AND4);
        int[] want = {3, 2, 1, 1};
        for (int most = 2; most <= 5; most++) {
            forge.cover(most);
            due("depth() of cover(" + most + ")", forge.depth(), want[most - 2]);
            forge.coverFew(most);
            due("depth() of coverFew(" + most + ")", forge.depth(), want[most - 2]);
        }
        Forge forgeOfOne = done(".inputs a b c\n.outputs y\n.names c b a y\n101 1\n.end");
        due("the cut of depth 1, though one of two nodes is there", forgeOfOne.cover(5), 1);
        isCell(forgeOfOne, 0, 5, 32, 1, 1, 2, 3);
    }

    private static void fewestNodes() {
        Forge forge = done(".inputs a b c d\n.outputs y\n.names c b d a y\n0111 1\n.end");
        due("cover(3)", forge.cover(3), 2);
        isCell(forge, 0, 6, 32, 1, 2, 3, 4);
        isCell(forge, 1, 7, 8, 2, 1, 6);
    }

    private static void leastNodes() {
        Forge forge = done(".inputs a b c d\n.outputs y\n.names d c a b a y\n11111 1\n.end");
        due("cover(3)", forge.cover(3), 2);
        isCell(forge, 0, 5, 8, 1, 3, 4);
        isCell(forge, 1, 8, 128, 2, 1, 2, 5);
        Forge next = done(".inputs a b c d\n.outputs y\n.names c d a b y\n1--1 0\n0101 0\n.end");
        due("cover(3)", next.cover(3), 2);
        isCell(next, 0, 7, 16, 1, 1, 3, 4);
        isCell(next, 1, 9, 87, 2, 2, 3, 7);
    }

    private static void wires() {
        Forge forge = done(WIRES);
        due("cover(2)", forge.cover(2), 0);
        due("depth()", forge.depth(), 0);
        due("coverFew(5)", forge.coverFew(5), 0);
        due("depth()", forge.depth(), 0);
        thrown("cell(0, 0)", PLACE, () -> forge.cell(0, 0));
        thrown("cell(0, -1)", PLACE, () -> forge.cell(0, -1));
        Forge both = done(".inputs a b\n.outputs a y\n.names a b y\n11 1\n.end");
        both.cover(2);
        due("beside a gate", both.depth(), 1);
    }

    // ---- cells

    private static void cells() {
        says("of each output's gate, and then of each gate in the best cut of a cell's gate",
                CoverEdgesTest::whichCells);
        says("the gate, with that cut as inputs, from the least on", CoverEdgesTest::inputsFromLeast);
        says("(the first input the lowest bit)", CoverEdgesTest::lowestBit);
        says("where one of its inputs can't be so together, too", CoverEdgesTest::impossible);
        says("its table (of five inputs an int with all its bits, perhaps below 0)", CoverEdgesTest::tables);
        says("Covers: how many cells.", CoverEdgesTest::howManyCells);
        says("as the graph's gates between give it", CoverEdgesTest::greatestGraph);
        says("no cover. (behind another graph)", CoverEdgesTest::anotherGraph);
    }

    private static void whichCells() {
        Forge inside = done(".inputs a b c\n.outputs y t\n.names t c y\n11 1\n.names a b t\n11 1\n.end");
        due("an output inside another's cell has its own", inside.cover(3), 2);
        isCell(inside, 0, 4, 8, 1, 1, 2);
        isCell(inside, 1, 5, 128, 1, 1, 2, 3);
        Forge opposite = done(".inputs a b\n.outputs y z\n.names a b y\n11 1\n.names a b z\n11 0\n.end");
        due("a gate and its opposite", opposite.cover(2), 1);
        Forge unneeded = done(".inputs a b c\n.outputs y\n.names t u y\n-1 1\n.names a c u\n11 1\n.names a b t\n"
                + "11 1\n.end");
        due("a gate that no output needs has none", unneeded.cover(2), 1);
        isCell(unneeded, 0, 5, 8, 1, 1, 3);
    }

    private static void inputsFromLeast() {
        Forge forge = done(".inputs a b c\n.outputs y\n.names c b a y\n110 1\n.end");
        due("cover(3)", forge.cover(3), 1);
        isCell(forge, 0, 5, 64, 1, 1, 2, 3);
        due("cover(2)", forge.cover(2), 2);
        isCell(forge, 0, 4, 8, 1, 2, 3);
        isCell(forge, 1, 5, 4, 2, 1, 4);
    }

    private static void lowestBit() {
        Forge forge = done(".inputs a b\n.outputs y\n.names a b y\n10 1\n.end");
        forge.cover(2);
        due("a but b", forge.cell(0, 2), 2);
        Forge other = done(".inputs a b\n.outputs y\n.names a b y\n01 1\n.end");
        other.cover(2);
        due("b but a", other.cell(0, 2), 4);
    }

    private static void impossible() {
        Forge forge = done(".inputs a b c\n.outputs y p q\n.names a b p\n11 1\n.names a c q\n01 1\n.names p q y\n"
                + "11 1\n.end");
        forge.cover(2);
        isCell(forge, 2, 6, 8, 2, 4, 5);
        Forge few = done(".inputs a b c\n.outputs y p q\n.names a b p\n11 1\n.names a c q\n01 1\n.names p q y\n"
                + "11 1\n.end");
        few.coverFew(2);
        isCell(few, 2, 6, 8, 2, 4, 5);
    }

    private static void tables() {
        Forge and = done(".inputs a b c d e\n.outputs y\n.names a b c d e y\n11111 1\n.end");
        and.cover(5);
        isCell(and, 0, 9, LEAST, 1, 1, 2, 3, 4, 5);
        Forge nor = done(".inputs a b c d e\n.outputs y\n.names a b c d e y\n00000 1\n.end");
        nor.cover(5);
        isCell(nor, 0, 9, 1, 1, 1, 2, 3, 4, 5);
        Forge but = done(".inputs a b c d e\n.outputs y\n.names a b c d e y\n11111 0\n00000 0\n.end");
        but.cover(5);
        due("all bits but the first and the last", but.cell(0, 2), GREATEST - 1);
        Forge first = done(".inputs a b c d e\n.outputs y\n.names a b c d e y\n00000 0\n00000 0\n1---0 0\n.end");
        first.cover(5);
        due("bits 16 to 31, and those below without a but bit 0", first.cell(0, 2), 0xFFFF5554);
        Forge zero = done(".inputs a b\n.outputs y\n.names a b a y\n110 1\n.end");
        zero.cover(2);
        isCell(zero, 0, 4, 0, 1, 1, 2);
        Forge one = done(".inputs a b c\n.outputs z\n.names y t z\n01 1\n.names a b a y\n110 1\n.names a c a t\n"
                + "110 0\n.end");
        one.cover(3);
        due("all eight bits", one.cell(0, 2), 255);
    }

    private static void howManyCells() {
        Forge forge = done(AND4);
        due("cover(2)", forge.cover(2), 3);
        due("the last one", forge.cell(2, 0), 7);
        thrown("one more", PLACE, () -> forge.cell(3, 0));
        due("cover(4) in its place", forge.cover(4), 1);
        thrown("one that was there", PLACE, () -> forge.cell(1, 0));
        due("its depth", forge.depth(), 1);
    }

    /** Of 200 gates and eight inputs the cells, from one to the next, give what the graph gives. */
    private static void greatestGraph() {
        String[] calls = {"cover", "coverFew"};
        for (String call : calls) {
            for (int most = 2; most <= 5; most++) {
                Forge forge = done(unlikeGates());
                int cells = forge.call(call, most, 0);
                boolean[][] values = inputValues(forge);
                for (int c = 0; c < cells; c++) {
                    addCell(forge, c, most, values);
                }
                due("the last cell of " + call + "(" + most + ")", forge.cell(cells - 1, 0), 208);
                compareOutputs(forge, values);
            }
        }
    }

    private static void addCell(Forge forge, int c, int most, boolean[][] values) {
        int table = forge.cell(c, 2);
        int width = forge.cell(c, 1);
        due("inputs of cell " + c + " at most " + most, width <= most ? 1 : 0, 1);
        boolean[] given = new boolean[256];
        int[] inputs = new int[width];
        for (int k = 0; k < width; k++) {
            inputs[k] = forge.cell(c, 4 + k);
        }
        for (int in = 0; in < 256; in++) {
            int bit = 0;
            for (int k = 0; k < width; k++) {
                bit |= values[inputs[k]][in] ? 1 << k : 0;
            }
            given[in] = (table >>> bit & 1) != 0;
        }
        values[forge.cell(c, 0)] = given;
    }

    private static boolean[][] inputValues(Forge forge) {
        boolean[][] values = new boolean[1 + forge.graph(0) + forge.graph(2)][256];
        for (int k = 0; k < 8; k++) {
            for (int in = 0; in < 256; in++) {
                values[k + 1][in] = (in >> k & 1) != 0;
            }
        }
        return values;
    }

    private static void compareOutputs(Forge forge, boolean[][] values) {
        int[] literals = new int[forge.graph(1)];
        for (int k = 0; k < literals.length; k++) {
            literals[k] = forge.output(k);
        }
        for (int in = 0; in < 256; in++) {
            int want = 0;
            for (int k = 0; k < literals.length; k++) {
                want |= values[literals[k] >> 1][in] != ((literals[k] & 1) != 0) ? 1 << k : 0;
            }
            due("value(" + in + ") and the cells", forge.value(in), want);
        }
    }

    private static void anotherGraph() {
        Forge forge = done(AND4);
        due("cover(3)", forge.cover(3), 2);
        due("a sign of it", forge.sign(8), 'a');
        forge.balance();
        due("cover(3) of the balanced one", forge.cover(3), 3);
        written("it", coverText(forge), ".inputs a b c d\n.outputs y\n.names c d n_5\n11 1\n.names a b n_6\n11 1\n"
                + ".names n_5 n_6 n_7\n11 1\n.names n_7 y\n1 1\n.end\n");
        due("cover(4)", forge.cover(4), 1);
        anew(forge, ".inputs q r\n.outputs s\n.names q r s\n00 1\n.end");
        due("read()", forge.read(), 0);
        due("cover(4) of another", forge.cover(4), 1);
        written("it", coverText(forge), ".inputs q r\n.outputs s\n.names q r n_3\n00 1\n.names n_3 s\n1 1\n.end\n");
    }

    // ---- few cells

    private static void fewCells() {
        says("each output's gate is WANTED with the greatest depth of all outputs as its TIME",
                CoverEdgesTest::greatestTime);
        says("of its cuts that aren't spare and have a depth of at most its time", CoverEdgesTest::atMostTime);
        says("the one with the fewest gates in it that aren't wanted yet", CoverEdgesTest::fewestUnwanted);
        says("of several the one of the fewest nodes", CoverEdgesTest::fewNodes);
        says("then the one whose least node is least, and so on", CoverEdgesTest::leastOfFew);
        says("the gates in it are wanted then, with one less as their time", CoverEdgesTest::oneLess);
        says("(or the lesser one, if they were)", CoverEdgesTest::lesserTime);
        says("A cell's depth is told as before: its gate's, whatever cut it took.", CoverEdgesTest::toldDepth);
    }

    private static void greatestTime() {
        Forge forge = done(".inputs a b c d e f g\n.outputs p y z\n.names a b p\n11 1\n.names p c y\n11 1\n"
                + ".names d e f g z\n1111 1\n.end");
        due("coverFew(3)", forge.coverFew(3), 4);
        isCell(forge, 0, 8, 8, 1, 1, 2);
        isCell(forge, 1, 9, 8, 1, 3, 8);
        isCell(forge, 2, 11, 128, 1, 4, 5, 6);
        isCell(forge, 3, 12, 8, 2, 7, 11);
        due("cover(3)", forge.cover(3), 4);
        isCell(forge, 1, 9, 128, 1, 1, 2, 3);
    }

    private static void atMostTime() {
        Forge forge = done(".inputs a b c d\n.outputs y\n.names d c a b a y\n11111 1\n.end");
        due("not the cut of two nodes of depth 3", forge.coverFew(3), 2);
        isCell(forge, 1, 8, 128, 2, 1, 2, 5);
        Forge slow = done(AND4);
        due("coverFew(2)", slow.coverFew(2), 3);
        isCell(slow, 2, 7, 8, 3, 4, 6);
    }

    private static void fewestUnwanted() {
        Forge forge = done(".inputs a b c d e\n.outputs y p\n.names b e p\n10 1\n.names p d c y\n011 1\n.end");
        due("coverFew(3)", forge.coverFew(3), 2);
        isCell(forge, 0, 6, 2, 1, 2, 5);
        isCell(forge, 1, 8, 8, 2, 3, 4, 6);
        Forge pairs = done(PAIRS);
        due("cover(3)", pairs.cover(3), 3);
        due("coverFew(3)", pairs.coverFew(3), 2);
    }

    private static void fewNodes() {
        Forge forge = done(".inputs a b c d\n.outputs y\n.names c b d a y\n0111 1\n.end");
        due("coverFew(3)", forge.coverFew(3), 2);
        isCell(forge, 0, 6, 32, 1, 2, 3, 4);
        isCell(forge, 1, 7, 8, 2, 1, 6);
    }

    private static void leastOfFew() {
        Forge pairs = done(PAIRS);
        due("coverFew(3)", pairs.coverFew(3), 2);
        isCell(pairs, 0, 6, 8, 1, 3, 4);
        isCell(pairs, 1, 7, 128, 2, 1, 2, 6);
        Forge next = done(".inputs a b c d\n.outputs y\n.names d c a b a y\n11111 1\n.end");
        next.coverFew(3);
        isCell(next, 0, 5, 8, 1, 3, 4);
    }

    private static void oneLess() {
        Forge forge = done(".inputs a b c d\n.outputs p y z\n.names a b p\n11 1\n.names p c y\n11 1\n"
                + ".names y d z\n11 1\n.end");
        due("coverFew(3)", forge.coverFew(3), 3);
        isCell(forge, 0, 5, 8, 1, 1, 2);
        isCell(forge, 1, 6, 128, 1, 1, 2, 3);
        isCell(forge, 2, 7, 8, 2, 4, 6);
    }

    private static void lesserTime() {
        Forge forge = done(EIGHT + ".outputs q y x\n.names a b q\n11 1\n.names q c p\n11 1\n.names p d y\n11 1\n"
                + ".names p e f g h x\n11111 1\n.end");
        due("coverFew(3)", forge.coverFew(3), 5);
        isCell(forge, 0, 9, 8, 1, 1, 2);
        isCell(forge, 1, 10, 128, 1, 1, 2, 3);
        isCell(forge, 2, 11, 8, 2, 4, 10);
        isCell(forge, 3, 13, 128, 2, 5, 6, 10);
        isCell(forge, 4, 15, 128, 3, 7, 8, 13);
        due("depth()", forge.depth(), 3);
    }

    private static void toldDepth() {
        Forge forge = done(".inputs a b c d e f g\n.outputs p y z\n.names a b p\n11 1\n.names p c y\n11 1\n"
                + ".names d e f g z\n1111 1\n.end");
        forge.coverFew(3);
        due("a cell above another of depth 1", forge.cell(1, 5), 8);
        due("has depth 1, too", forge.cell(1, 3), 1);
        due("depth()", forge.depth(), 2);
    }

    // ---- promises 17 and 18

    private static void depthAndCell() {
        says("IllegalStateException if there is no cover. (depth)", CoverEdgesTest::noCover);
        says("IndexOutOfBoundsException if there is no such cell or input", CoverEdgesTest::noSuchCell);
        says("IllegalArgumentException if what is below 0.", CoverEdgesTest::whatBelowZero);
    }

    private static void noCover() {
        Forge forge = done(XOR);
        thrown("before a cover", STATE, () -> forge.depth());
        thrown("cover(6)", ARGUMENT, () -> forge.cover(6));
        thrown("behind a cover that was refused", STATE, () -> forge.depth());
        thrown("cell(0, 0)", STATE, () -> forge.cell(0, 0));
        thrown("sign(0)", STATE, () -> forge.sign(0));
        forge.cover(2);
        due("with a cover", forge.depth(), 1);
        String[] calls = {"read", "balance", "reduce", "rewrite"};
        for (String call : calls) {
            Forge copy = forge.copy();
            copy.call(call, 0, 0);
            thrown("depth() behind " + call + "()", STATE, () -> copy.depth());
            thrown("cell(0, 0) behind " + call + "()", STATE, () -> copy.cell(0, 0));
            thrown("sign(0) behind " + call + "()", STATE, () -> copy.sign(0));
        }
        kit(forge, NANDS);
        forge.map();
        due("library() and map() leave it", forge.depth(), 1);
    }

    private static void noSuchCell() {
        Forge forge = done(AND4);
        forge.cover(3);
        int[] bad = {-1, 2, 3, 200, LEAST, GREATEST};
        for (int c : bad) {
            for (int what = -1; what <= 5; what++) {
                int asked = what;
                thrown("cell(" + c + ", " + what + ")", PLACE, () -> forge.cell(c, asked));
            }
        }
        due("input 2 of three", forge.cell(0, 6), 3);
        due("input 1 of two", forge.cell(1, 5), 6);
        int[] behind = {7, 8, 9, 100, GREATEST};
        for (int what : behind) {
            thrown("cell(0, " + what + ")", PLACE, () -> forge.cell(0, what));
            thrown("cell(1, " + what + ")", PLACE, () -> forge.cell(1, what));
        }
        thrown("input 2 of two", PLACE, () -> forge.cell(1, 6));
    }

    private static void whatBelowZero() {
        Forge forge = done(AND4);
        forge.cover(3);
        int[] bad = {-1, -2, -4, LEAST};
        for (int what : bad) {
            thrown("cell(0, " + what + ")", ARGUMENT, () -> forge.cell(0, what));
            thrown("cell(1, " + what + ")", ARGUMENT, () -> forge.cell(1, what));
        }
        due("cell(0, 0)", forge.cell(0, 0), 6);
    }

    // ---- writing

    private static void writing() {
        says("Sign k of what is written; NONE behind its end.", CoverEdgesTest::signs);
        says("IndexOutOfBoundsException if k is below 0. (sign)", CoverEdgesTest::signBelowZero);
        says("a row for each bit of its table that is 1, from 0 on", CoverEdgesTest::rows);
        says("the name of its node and its own, and the row 1 1, or 0 1 if its literal is the opposite",
                CoverEdgesTest::outputs);
        says("if the node is 0: .names and its own name, and the row 1 if it is the opposite",
                CoverEdgesTest::fixedOutputs);
        says("of each cell, by numbers of gates", CoverEdgesTest::order);
        says("An output that is an input's .. name, too, is written all the same", CoverEdgesTest::outputIsInput);
        says("so is a gate's name that is one of the text's", CoverEdgesTest::namesOfGates);
    }

    private static void signs() {
        String want = ".inputs a b\n.outputs y\n.names a b n_5\n00 1\n11 1\n.names n_5 y\n0 1\n.end\n";
        Forge forge = done(XOR);
        forge.cover(2);
        written("the cover", coverText(forge), want);
        due("sign(0)", forge.sign(0), '.');
        due("the last one", forge.sign(want.length() - 1), 10);
        due("behind it", forge.sign(want.length()), NONE);
        due("far behind it", forge.sign(GREATEST), NONE);
        due("sign(0) again", forge.sign(0), '.');
        Forge again = with(coverText(forge));
        due("read() of it", again.read(), 0);
        values(again, 0, 1, 1, 0);
    }

    private static void signBelowZero() {
        Forge forge = done(XOR);
        thrown("without a cover", STATE, () -> forge.sign(-1));
        forge.cover(2);
        thrown("sign(-1)", PLACE, () -> forge.sign(-1));
        thrown("sign(MIN_VALUE)", PLACE, () -> forge.sign(LEAST));
        due("sign(0)", forge.sign(0), '.');
    }

    private static void rows() {
        Forge zero = done(".inputs a b\n.outputs y\n.names a b a y\n110 1\n.end");
        zero.cover(2);
        written("a table of zeros", coverText(zero),
                ".inputs a b\n.outputs y\n.names a b n_4\n.names n_4 y\n1 1\n.end\n");
        Forge and = done(".inputs a b c d e\n.outputs y\n.names a b c d e y\n11110 1\n.end");
        and.cover(5);
        written("the first input first", coverText(and),
                ".inputs a b c d e\n.outputs y\n.names a b c d e n_9\n11110 1\n.names n_9 y\n1 1\n.end\n");
        Forge nor = done(".inputs a b c d e\n.outputs y\n.names a b c d e y\n00000 1\n.end");
        nor.cover(5);
        written("the first bit of 32", coverText(nor),
                ".inputs a b c d e\n.outputs y\n.names a b c d e n_9\n00000 1\n.names n_9 y\n1 1\n.end\n");
        Forge last = done(".inputs a b c d e\n.outputs y\n.names a b c d e y\n11111 1\n.end");
        last.cover(5);
        written("the last bit of 32", coverText(last),
                ".inputs a b c d e\n.outputs y\n.names a b c d e n_9\n11111 1\n.names n_9 y\n1 1\n.end\n");
        Forge seven = done(".inputs a b c d e\n.outputs y\n.names a b c d e y\n11111 0\n0---- 0\n-0--- 0\n.end");
        seven.cover(5);
        written("rows from 0 on", coverText(seven), ".inputs a b c d e\n.outputs y\n.names a b c d e n_11\n"
                + "11000 1\n11100 1\n11010 1\n11110 1\n11001 1\n11101 1\n11011 1\n.names n_11 y\n1 1\n.end\n");
    }

    private static void outputs() {
        Forge forge = done(".inputs a b\n.outputs w x y z\n.names a w\n1 1\n.names b x\n0 1\n.names a b y\n11 1\n"
                + ".names a b z\n11 0\n.end");
        forge.cover(2);
        written("inputs and gates", coverText(forge), ".inputs a b\n.outputs w x y z\n.names a b n_3\n11 1\n"
                + ".names a w\n1 1\n"
                + ".names b x\n0 1\n.names n_3 y\n1 1\n.names n_3 z\n0 1\n.end\n");
    }

    private static void fixedOutputs() {
        Forge forge = done(".inputs a\n.outputs y z\n.names y\n.names z\n1\n.end");
        forge.coverFew(5);
        written("0 and 1", coverText(forge), ".inputs a\n.outputs y z\n.names y\n.names z\n1\n.end\n");
    }

    private static void order() {
        Forge forge = done(PAIRS);
        forge.cover(2);
        String head = ".inputs a b c d\n.outputs y\n";
        written("cover(2)", coverText(forge), head + ".names a b n_5\n11 1\n.names c d n_6\n11 1\n"
                + ".names n_5 n_6 n_7\n11 1\n"
                + ".names n_7 y\n1 1\n.end\n");
        forge.coverFew(3);
        written("coverFew(3) in its place", coverText(forge), head + ".names c d n_6\n11 1\n.names a b n_6 n_7\n"
                + "111 1\n"
                + ".names n_7 y\n1 1\n.end\n");
        thrown("cover(1)", ARGUMENT, () -> forge.cover(1));
        written("it stays", coverText(forge), head + ".names c d n_6\n11 1\n.names a b n_6 n_7\n111 1\n"
                + ".names n_7 y\n1 1\n.end\n");
    }

    private static void outputIsInput() {
        Forge forge = done(".inputs abcdefgh B_2\n.outputs B_2 abcdefgh\n.end");
        forge.cover(2);
        written("names of inputs", coverText(forge), ".inputs abcdefgh B_2\n.outputs B_2 abcdefgh\n"
                + ".names B_2 B_2\n1 1\n"
                + ".names abcdefgh abcdefgh\n1 1\n.end\n");
    }

    private static void namesOfGates() {
        Forge forge = done(".inputs n_3 b\n.outputs n_4 n_5\n.names n_3 b n_4\n11 1\n.names n_3 b n_5\n10 1\n.end");
        forge.cover(2);
        written("names of gates", coverText(forge), ".inputs n_3 b\n.outputs n_4 n_5\n.names n_3 b n_3\n11 1\n"
                + ".names n_3 b n_4\n10 1\n.names n_3 n_4\n1 1\n.names n_4 n_5\n1 1\n.end\n");
        due("what is written is no text then", with(coverText(forge)).read(), 2);
    }
}
