/** Promises 4 and 6 to 12, section 2 of the terms: each sentence that names a boundary case has its own test. */
public final class GraphEdgesTest extends Checks {
    private static final String TWO = ".inputs a b\n.outputs y\n";
    private static final String THREE = ".inputs a b c\n.outputs y\n";
    private static final String WIRES = ".inputs a b\n.outputs a zero one not\n.names zero\n.names one\n1\n"
            + ".names b not\n0 1\n.end\n";
    private static final String EIGHT = ".inputs a b c d e f g h\n";

    public static void main(String[] args) {
        nodes();
        ands();
        building();
        levels();
        asking();
        balancing();
        reducing();
        rewriting();
        tooGreat();
        endTests();
    }

    // ---- nodes and literals

    private static void nodes() {
        says("NODES have numbers: 0 is false", GraphEdgesTest::zeroIsFalse);
        says("1 .. are the inputs, in the order of .inputs", GraphEdgesTest::inputsInOrder);
        says("then GATES, at most 200", GraphEdgesTest::mostGates);
        says("A LITERAL is twice a node's number, and 1 more for its opposite", GraphEdgesTest::literals);
    }

    private static void zeroIsFalse() {
        Forge forge = done(".inputs a\n.outputs y z\n.names y\n.names z\n1\n.end");
        due("0", forge.output(0), 0);
        due("its opposite", forge.output(1), 1);
        values(forge, 2, 2);
        thrown("gate(0, 0)", PLACE, () -> forge.gate(0, 0));
    }

    private static void inputsInOrder() {
        Forge forge = done(".inputs h b a\n.outputs a b h\n.end");
        due("a", forge.output(0), 6);
        due("b", forge.output(1), 4);
        due("h", forge.output(2), 2);
        due("the eighth", done(EIGHT + ".outputs h\n.end").output(0), 16);
    }

    private static void mostGates() {
        Forge forge = done(ofGates(200));
        due("gates", forge.graph(2), 200);
        due("the last one", forge.output(0), 405);
        due("its level", forge.gate(202, 2), 200);
        thrown("one more", PLACE, () -> forge.gate(203, 0));
        due("199 gates", done(ofGates(199)).graph(2), 199);
        Forge first = done(EIGHT + ".outputs y\n.names g h y\n11 1\n.end");
        due("the first gate behind eight inputs", first.output(0), 18);
        Forge one = done(".inputs a\n.outputs y\n.names a y\n1 1\n.end");
        thrown("no gate behind one input", PLACE, () -> one.gate(2, 0));
    }

    private static void literals() {
        Forge forge = done(".inputs a b\n.outputs w x y z\n.names a w\n1 1\n.names a x\n0 1\n.names a b y\n11 1\n"
                + ".names a b z\n11 0\n.end");
        due("an input", forge.output(0), 2);
        due("its opposite", forge.output(1), 3);
        due("a gate", forge.output(2), 6);
        due("its opposite", forge.output(3), 7);
    }

    // ---- AND

    private static void ands() {
        says("x not above y (otherwise changed)", GraphEdgesTest::changed);
        says("x if x is 0", GraphEdgesTest::andOfZero);
        says("or both are the same", GraphEdgesTest::andOfSame);
        says("y if x is 1", GraphEdgesTest::andOfOne);
        says("0 if they are opposites", GraphEdgesTest::andOfOpposites);
        says("otherwise the gate of x and y: the one that there is", GraphEdgesTest::thereIs);
        says("or a new one with the next number", GraphEdgesTest::newGate);
    }

    private static void changed() {
        isGate(done(TWO + ".names b a y\n11 1\n.end"), 3, 2, 4);
        isGate(done(TWO + ".names b a y\n01 1\n.end"), 3, 2, 5);
        isGate(done(TWO + ".names a b y\n01 1\n.end"), 3, 3, 4);
        isGate(done(THREE + ".names b c a y\n111 1\n.end"), 5, 2, 8);
    }

    private static void andOfZero() {
        String[] tables = {".names z a y\n11 1\n", ".names a z y\n11 1\n", ".names z z y\n11 1\n",
            ".names z z y\n10 1\n", ".names a b z y\n111 1\n"};
        int[] gates = {0, 0, 0, 0, 1};
        for (int k = 0; k < tables.length; k++) {
            Forge forge = done(TWO + tables[k] + ".names z\n.end");
            due("output of " + tables[k], forge.output(0), 0);
            due("gates of " + tables[k], forge.graph(2), gates[k]);
        }
    }

    private static void andOfSame() {
        due("a a", done(TWO + ".names a a y\n11 1\n.end").output(0), 2);
        due("not a, not a", done(TWO + ".names a a y\n00 1\n.end").output(0), 3);
        due("no gate", done(TWO + ".names a a a a a y\n11111 1\n.end").graph(2), 0);
        Forge gates = done(TWO + ".names p q y\n11 1\n.names a b p\n11 1\n.names b a q\n11 1\n.end");
        due("of gates", gates.output(0), 6);
        due("one gate", gates.graph(2), 1);
    }

    private static void andOfOne() {
        String[] tables = {".names o a y\n11 1\n", ".names a o y\n11 1\n", ".names z a y\n01 1\n"};
        for (String table : tables) {
            Forge forge = done(TWO + table + ".names o\n1\n.names z\n.end");
            due("output of " + table, forge.output(0), 2);
            due("no gate", forge.graph(2), 0);
        }
        due("1 and 1", done(TWO + ".names o o y\n11 1\n.names o\n1\n.end").output(0), 1);
        due("1 and the opposite of a", done(TWO + ".names o a y\n10 1\n.names o\n1\n.end").output(0), 3);
    }

    private static void andOfOpposites() {
        due("a, not a", done(TWO + ".names a a y\n10 1\n.end").output(0), 0);
        due("not a, a", done(TWO + ".names a a y\n01 1\n.end").output(0), 0);
        Forge gates = done(TWO + ".names p p y\n01 1\n.names a b p\n11 1\n.end");
        due("of gates", gates.output(0), 0);
        due("one gate", gates.graph(2), 1);
    }

    private static void thereIs() {
        Forge forge = done(".inputs a b\n.outputs w x y z\n.names a b w\n11 1\n.names b a x\n11 1\n"
                + ".names a b y\n11 0\n.names a b z\n10 1\n.end");
        due("first", forge.output(0), 6);
        due("the same", forge.output(1), 6);
        due("its opposite", forge.output(2), 7);
        due("another", forge.output(3), 8);
        due("two gates", forge.graph(2), 2);
        Forge both = done(".inputs a b c\n.outputs w x y z\n.names a b w\n11 1\n.names a c x\n11 1\n"
                + ".names a b y\n11 1\n.names a c z\n11 1\n.end");
        due("two gates of the same x", both.graph(2), 2);
        due("the earlier one", both.output(2), 8);
        due("the later one", both.output(3), 10);
    }

    private static void newGate() {
        Forge forge = done(".inputs a b\n.outputs w x y z\n.names a b w\n11 1\n.names a b x\n10 1\n"
                + ".names a b y\n01 1\n.names a b z\n00 1\n.end");
        int[][] want = {{2, 4}, {2, 5}, {3, 4}, {3, 5}};
        for (int k = 0; k < 4; k++) {
            due("output " + k, forge.output(k), 6 + 2 * k);
            isGate(forge, 3 + k, want[k][0], want[k][1]);
        }
    }

    // ---- building

    private static void building() {
        says("for each output in order the literal of its name", GraphEdgesTest::outputsInOrder);
        says("first those of its inputs, from left to right, all of them", GraphEdgesTest::leftToRight);
        says("also one that no row asks", GraphEdgesTest::unasked);
        says("those with - left out (1 if there are none)", GraphEdgesTest::leftOut);
        says("one after the other (AND of what there is and the next one)", GraphEdgesTest::oneAfterTheOther);
        says("row by row, its AND, then OR of what there is of the rows ahead and that", GraphEdgesTest::rowByRow);
        says("(of the first row its AND itself)", GraphEdgesTest::firstRow);
        says("0 without rows", GraphEdgesTest::noRows);
        says("If the rows end with 0, the opposite of all.", GraphEdgesTest::oppositeOfAll);
    }

    private static void outputsInOrder() {
        Forge forge = done(".inputs a b c\n.outputs z y\n.names a b y\n11 1\n.names a c z\n11 1\n.end");
        isGate(forge, 4, 2, 6);
        isGate(forge, 5, 2, 4);
        due("z", forge.output(0), 8);
        due("y", forge.output(1), 10);
        due("tables that no output needs are not built",
                done(".inputs a b\n.outputs a\n.names a b y\n11 1\n.end").graph(2), 0);
    }

    private static void leftToRight() {
        Forge forge = done(THREE + ".names u t y\n11 1\n.names a b t\n11 1\n.names a c u\n11 1\n.end");
        isGate(forge, 4, 2, 6);
        isGate(forge, 5, 2, 4);
        isGate(forge, 6, 8, 10);
        Forge deep = done(THREE + ".names a t y\n11 1\n.names v u t\n11 1\n.names b c v\n11 1\n.names b c u\n"
                + "00 1\n.end");
        isGate(deep, 4, 4, 6);
        isGate(deep, 5, 5, 7);
        isGate(deep, 6, 8, 10);
        isGate(deep, 7, 2, 12);
    }

    private static void unasked() {
        Forge forge = done(THREE + ".names t u y\n-1 1\n.names a c u\n11 1\n.names a b t\n11 1\n.end");
        due("gates", forge.graph(2), 2);
        isGate(forge, 4, 2, 4);
        isGate(forge, 5, 2, 6);
        due("y", forge.output(0), 10);
        Forge none = done(TWO + ".names t y\n.names a b t\n11 1\n.end");
        due("of a table without rows, too", none.graph(2), 1);
        due("y", none.output(0), 0);
        Forge last = done(TWO + ".names a a a a t y\n1---- 1\n.names a b t\n11 1\n.end");
        due("the fifth input, too", last.graph(2), 1);
    }

    private static void leftOut() {
        due("none left", done(THREE + ".names a b c y\n--- 1\n.end").output(0), 1);
        due("one left", done(THREE + ".names a b c y\n--0 1\n.end").output(0), 7);
        Forge two = done(THREE + ".names a b c y\n1-1 1\n.end");
        due("two left", two.graph(2), 1);
        isGate(two, 4, 2, 6);
        due("a row of - behind another", done(TWO + ".names a b y\n11 1\n-- 1\n.end").output(0), 1);
        due("a row of - ahead of another", done(TWO + ".names a b y\n-- 1\n11 1\n.end").output(0), 1);
    }

    private static void oneAfterTheOther() {
        Forge forge = done(".inputs a b c d e\n.outputs y\n.names a b c d e y\n11011 1\n.end");
        isGate(forge, 6, 2, 4);
        isGate(forge, 7, 7, 12);
        isGate(forge, 8, 8, 14);
        isGate(forge, 9, 10, 16);
        due("y", forge.output(0), 18);
    }

    private static void rowByRow() {
        Forge forge = done(THREE + ".names a b c y\n110 1\n011 1\n101 1\n.end");
        int[][] want = {{2, 4}, {7, 8}, {3, 4}, {6, 12}, {11, 15}, {2, 5}, {6, 18}, {16, 21}};
        due("gates", forge.graph(2), want.length);
        for (int k = 0; k < want.length; k++) {
            isGate(forge, 4 + k, want[k][0], want[k][1]);
        }
        due("y", forge.output(0), 23);
    }

    private static void firstRow() {
        due("no gate for one row of one", done(TWO + ".names a b y\n1- 1\n.end").graph(2), 0);
        Forge forge = done(TWO + ".names a b y\n11 1\n.end");
        due("one gate", forge.graph(2), 1);
        due("y", forge.output(0), 6);
    }

    private static void noRows() {
        due("without inputs", done(TWO + ".names y\n.end").output(0), 0);
        due("with inputs", done(TWO + ".names a b y\n.end").output(0), 0);
        due("no gates", done(TWO + ".names a b y\n.end").graph(2), 0);
    }

    private static void oppositeOfAll() {
        due("of one row", done(TWO + ".names a b y\n11 0\n.end").output(0), 7);
        due("of two rows", done(TWO + ".names a b y\n10 0\n01 0\n.end").output(0), 10);
        due("of -", done(TWO + ".names a b y\n-- 0\n.end").output(0), 0);
        due("without inputs", done(TWO + ".names y\n0\n.end").output(0), 0);
        due("of an input", done(TWO + ".names a y\n1 0\n.end").output(0), 3);
    }

    // ---- levels

    private static void levels() {
        says("The LEVEL of 0 and inputs is 0", GraphEdgesTest::levelOfInputs);
        says("that of a gate one more than the greater one of its two", GraphEdgesTest::levelOfGates);
        says("3 the greatest level of an output's node", GraphEdgesTest::greatestLevel);
    }

    private static void levelOfInputs() {
        due("of wires", done(WIRES).graph(3), 0);
        due("of a gate of inputs", done(TWO + ".names a b y\n00 1\n.end").gate(3, 2), 1);
        Forge forge = done(ofGates(20));
        anew(forge, EIGHT + ".outputs h\n.end");
        forge.read();
        due("of an input where a gate was", forge.graph(3), 0);
    }

    private static void levelOfGates() {
        Forge forge = done(".inputs a b c d\n.outputs y\n.names p q y\n11 1\n.names a b c p\n111 1\n"
                + ".names c d q\n11 1\n.end");
        int[] want = {1, 2, 1, 3};
        for (int k = 0; k < 4; k++) {
            due("level of gate " + (5 + k), forge.gate(5 + k, 2), want[k]);
        }
    }

    private static void greatestLevel() {
        due("of the first output", done(".inputs a b c\n.outputs y a\n.names a b c y\n111 1\n.end").graph(3), 2);
        due("of the last output", done(".inputs a b c\n.outputs a y\n.names a b c y\n111 0\n.end").graph(3), 2);
        due("not of other gates", done(TWO + ".names t a y\n-1 1\n.names a b t\n11 1\n.end").graph(3), 0);
        due("of 200 gates", done(ofGates(200)).graph(3), 200);
    }

    // ---- promises 6 to 9

    private static void asking() {
        says("0 how many inputs, 1 outputs, 2 gates (also those that no output needs)", GraphEdgesTest::howMany);
        says("IllegalArgumentException for another what. (graph)", GraphEdgesTest::otherOfGraph);
        says("IndexOutOfBoundsException if there is no such gate", GraphEdgesTest::noSuchGate);
        says("IllegalArgumentException for another what. (gate)", GraphEdgesTest::otherOfGate);
        says("IndexOutOfBoundsException if there is none such. (output)", GraphEdgesTest::noSuchOutput);
        says("What all outputs are for inputs (bit k input k): bit k output k.", GraphEdgesTest::bits);
        says("IllegalArgumentException if inputs is below 0, or has bits that no input has.",
                GraphEdgesTest::badInputs);
    }

    private static void howMany() {
        Forge least = done(".inputs a\n.outputs a\n.end");
        Forge most = done(EIGHT + ".outputs a b c d e f\n.end");
        due("one input", least.graph(0), 1);
        due("one output", least.graph(1), 1);
        due("no gates", least.graph(2), 0);
        due("eight inputs", most.graph(0), 8);
        due("six outputs", most.graph(1), 6);
        due("gates that no output needs", done(unneeded(ofGates(7))).graph(2), 7);
        due("200 that no output needs", done(unneeded(ofGates(200))).graph(2), 200);
    }

    private static void otherOfGraph() {
        Forge forge = done(XOR);
        int[] bad = {-1, 4, 5, LEAST, GREATEST};
        for (int what : bad) {
            thrown("graph(" + what + ")", ARGUMENT, () -> forge.graph(what));
        }
        due("graph(0)", forge.graph(0), 2);
        due("graph(3)", forge.graph(3), 2);
    }

    private static void noSuchGate() {
        Forge forge = done(XOR);
        int[] bad = {0, 1, 2, 6, 7, 208, 209, -1, LEAST, GREATEST};
        for (int node : bad) {
            for (int what = -1; what <= 3; what++) {
                int asked = what;
                thrown("gate(" + node + ", " + what + ")", PLACE, () -> forge.gate(node, asked));
            }
        }
        due("the first gate", forge.gate(3, 0), 2);
        due("the last gate", forge.gate(5, 0), 7);
        Forge wires = done(WIRES);
        thrown("without gates", PLACE, () -> wires.gate(3, 0));
        Forge fewer = done(ofGates(9));
        anew(fewer, XOR);
        fewer.read();
        thrown("one that was there", PLACE, () -> fewer.gate(6, 0));
    }

    private static void otherOfGate() {
        Forge forge = done(XOR);
        int[] bad = {-1, 3, 4, LEAST, GREATEST};
        for (int what : bad) {
            thrown("gate(3, " + what + ")", ARGUMENT, () -> forge.gate(3, what));
        }
        due("gate(3, 0)", forge.gate(3, 0), 2);
        due("gate(3, 2)", forge.gate(3, 2), 1);
    }

    private static void noSuchOutput() {
        Forge one = done(XOR);
        Forge six = done(EIGHT + ".outputs a b c d e f\n.end");
        int[] bad = {-1, 6, 7, LEAST, GREATEST};
        for (int k : bad) {
            thrown("output(" + k + ") of six", PLACE, () -> six.output(k));
            thrown("output(" + k + ") of one", PLACE, () -> one.output(k));
        }
        thrown("output(1) of one", PLACE, () -> one.output(1));
        due("output(5) of six", six.output(5), 12);
        due("output(0) of one", one.output(0), 11);
    }

    private static void bits() {
        Forge six = done(EIGHT + ".outputs h g f e d n\n.names a n\n0 1\n.end");
        due("no inputs", six.value(0), 32);
        due("all inputs", six.value(255), 31);
        due("the last one", six.value(128), 1 | 32);
        due("the first one", six.value(1), 0);
        due("the fourth and fifth", six.value(8 | 16), 8 | 16 | 32);
    }

    private static void badInputs() {
        for (int count = 1; count <= 8; count++) {
            Forge forge = done(EIGHT.substring(0, 7 + 2 * count) + "\n.outputs a\n.end");
            int behind = 1 << count;
            due("the greatest of " + count, forge.value(behind - 1), 1);
            due("the least of " + count, forge.value(0), 0);
            int[] bad = {behind, behind | 1, behind << 1, 1 << 30, -1, LEAST, LEAST + 1, GREATEST, -behind};
            for (int inputs : bad) {
                thrown("value(" + inputs + ") of " + count, ARGUMENT, () -> forge.value(inputs));
            }
        }
    }

    // ---- balancing

    private static void balancing() {
        says("Balances: how many gates there are then; no cover.", () -> dropsCover("balance"));
        says("going through the gates that an output needs", GraphEdgesTest::balanceNeeded);
        says("its LEAVES are the literals of its two, in this order .. in its place, and so on",
                GraphEdgesTest::leaves);
        says("one that is a gate's itself (not the opposite)", GraphEdgesTest::oppositeStays);
        says("used, itself or its opposite, only once in all", GraphEdgesTest::usedTwice);
        says("(by gates that are needed, or outputs)", GraphEdgesTest::usedByOutput);
        says("the first one of the least new level, and the first one of the least of the others",
                GraphEdgesTest::firstLeast);
        says("the AND of both .. comes at its end", GraphEdgesTest::atItsEnd);
        says("as long as it has two or more", GraphEdgesTest::foldedLeaves);
        says("The outputs' literals are the new ones. (balance)", () -> keepsWires("balance"));
    }

    private static void dropsCover(String call) {
        Forge forge = mappedBy(XOR, NANDS);
        forge.cover(2);
        due(call + "()", forge.call(call, 0, 0), 3);
        due("graph(2)", forge.graph(2), 3);
        thrown("depth()", STATE, () -> forge.depth());
        thrown("cell(0, 0)", STATE, () -> forge.cell(0, 0));
        thrown("sign(0)", STATE, () -> forge.sign(0));
        thrown("mapped(0)", STATE, () -> forge.mapped(0));
        thrown("instance(0, 0)", STATE, () -> forge.instance(0, 0));
        thrown("mappedSign(0)", STATE, () -> forge.mappedSign(0));
        due("the library stays", forge.libraryCell(1, 0), 2);
        due("the text stays", forge.put(0), NANDS.length());
        due("it can be covered again", forge.cover(2), 1);
        due("and mapped", forge.map(), 5);
    }

    private static void keepsWires(String call) {
        Forge forge = done(WIRES);
        due(call + "()", forge.call(call, 0, 0), 0);
        int[] want = {2, 0, 1, 5};
        for (int k = 0; k < 4; k++) {
            due("output " + k, forge.output(k), want[k]);
        }
        Forge turned = done(TWO + ".names a b y\n11 0\n.end");
        due(call + "()", turned.call(call, 0, 0), 1);
        due("an opposite", turned.output(0), 7);
    }

    private static void balanceNeeded() {
        due("none is needed", done(unneeded(ofGates(9))).balance(), 0);
        Forge forge = done(THREE + ".names t u y\n-1 1\n.names a c u\n11 1\n.names a b t\n11 1\n.end");
        due("one is needed", forge.balance(), 1);
        isGate(forge, 4, 2, 6);
        due("y", forge.output(0), 8);
    }

    private static void leaves() {
        Forge forge = done(".inputs a b c d e\n.outputs y\n.names a b c d e y\n11111 1\n.end");
        due("balance()", forge.balance(), 4);
        isGate(forge, 6, 8, 10);
        isGate(forge, 7, 2, 6);
        isGate(forge, 8, 4, 12);
        isGate(forge, 9, 14, 16);
        due("y", forge.output(0), 18);
        due("level", forge.graph(3), 3);
        Forge both = done(".inputs a b c d\n.outputs y\n.names p q y\n11 1\n.names a b p\n11 1\n.names c d q\n"
                + "11 1\n.end");
        due("balance()", both.balance(), 3);
        isGate(both, 5, 2, 4);
        isGate(both, 6, 6, 8);
        isGate(both, 7, 10, 12);
        Forge low = done(".inputs a b c d e\n.outputs y t\n.names p q y\n11 1\n.names t c p\n11 1\n.names d e q\n"
                + "11 1\n"
                + ".names a b t\n11 1\n.end");
        due("6, 12, 8, 10", low.balance(), 4);
        isGate(low, 6, 2, 4);
        isGate(low, 7, 6, 8);
        isGate(low, 8, 10, 12);
        isGate(low, 9, 14, 16);
    }

    private static void oppositeStays() {
        Forge forge = done(TWO + ".names b a y\n11 1\n0- 1\n.end");
        due("balance()", forge.balance(), 2);
        isGate(forge, 3, 2, 4);
        isGate(forge, 4, 4, 7);
        due("y", forge.output(0), 9);
    }

    private static void usedTwice() {
        Forge byTwo = done(".inputs a b c d e\n.outputs y z\n.names t c d y\n111 1\n.names t e z\n11 1\n"
                + ".names a b t\n11 1\n.end");
        due("by two gates", byTwo.balance(), 4);
        isGate(byTwo, 6, 2, 4);
        isGate(byTwo, 7, 6, 8);
        isGate(byTwo, 8, 12, 14);
        isGate(byTwo, 9, 10, 12);
        Forge opposite = done(".inputs a b c d e\n.outputs y z\n.names t c d y\n111 1\n.names t e z\n01 1\n"
                + ".names a b t\n11 1\n.end");
        due("itself and its opposite", opposite.balance(), 4);
        isGate(opposite, 6, 2, 4);
        isGate(opposite, 8, 12, 14);
        isGate(opposite, 9, 10, 13);
    }

    private static void usedByOutput() {
        String text = ".inputs a b c d\n.outputs y%s\n.names u t c d y\n-111 1\n.names t a u\n01 1\n"
                + ".names a b t\n11 1\n.end";
        Forge once = done(String.format(text, ""));
        due("used by a gate that is not needed, too", once.balance(), 3);
        isGate(once, 5, 6, 8);
        isGate(once, 6, 2, 4);
        Forge byOutput = done(String.format(text, " t"));
        due("used by an output, too", byOutput.balance(), 3);
        isGate(byOutput, 5, 2, 4);
        isGate(byOutput, 6, 6, 8);
        Forge byNeeded = done(String.format(text, " u"));
        due("used by a gate that is needed, too", byNeeded.balance(), 4);
        isGate(byNeeded, 5, 2, 4);
        Forge byOpposite = done(String.format(text.replace(".end", ".names t v\n0 1\n.end"), " v"));
        due("its opposite is an output", byOpposite.balance(), 3);
        isGate(byOpposite, 5, 2, 4);
        Forge opposite = done(".inputs a b c d\n.outputs z\n.names y u z\n1- 1\n.names t c y\n01 1\n"
                + ".names t d u\n11 1\n"
                + ".names a b t\n11 1\n.end");
        due("its opposite by one that is needed, itself by one that is not", opposite.balance(), 2);
        isGate(opposite, 5, 2, 4);
        isGate(opposite, 6, 6, 11);
    }

    private static void firstLeast() {
        Forge forge = done(TWO + ".names b a b y\n100 1\n.end");
        isGate(forge, 3, 3, 4);
        isGate(forge, 4, 5, 6);
        due("5, 3, 4: the first two", forge.balance(), 2);
        isGate(forge, 3, 3, 5);
        isGate(forge, 4, 4, 6);
    }

    private static void atItsEnd() {
        Forge forge = done(TWO + ".names b a b b y\n1001 1\n.end");
        due("4, 5, 3, 4: 0 behind 3, 4", forge.balance(), 1);
        isGate(forge, 3, 3, 4);
        due("y", forge.output(0), 0);
    }

    private static void foldedLeaves() {
        Forge same = done(TWO + ".names a b a y\n111 1\n.end");
        due("2, 2, 4", same.balance(), 1);
        due("y", same.output(0), 6);
        Forge opposite = done(TWO + ".names a b a y\n110 1\n.end");
        due("3, 2, 4", opposite.balance(), 0);
        due("y", opposite.output(0), 0);
        Forge chain = done(ofGates(200));
        due("5 .. 5, 3, 5: 3 and 5, and all the others", chain.balance(), 2);
        isGate(chain, 3, 3, 5);
        isGate(chain, 4, 5, 6);
        due("y", chain.output(0), 9);
    }

    // ---- reducing

    private static void reducing() {
        says("Reduces: how many gates there are then; no cover.", () -> dropsCover("reduce"));
        says("through the gates that an output needs in the order of their numbers", GraphEdgesTest::reduceNeeded);
        says("if a node that has a place already (0 ..) has the same function of the inputs",
                GraphEdgesTest::likeZero);
        says("(.. the inputs ..)", GraphEdgesTest::likeInput);
        says("(.. needed gates below)", GraphEdgesTest::likeGate);
        says("or the opposite one", GraphEdgesTest::likeOpposite);
        says("the same function of the inputs", GraphEdgesTest::almostAlike);
        says("Otherwise it is the AND of the new ones of its two.", GraphEdgesTest::unlike);
        says("The outputs' literals are the new ones. (reduce)", () -> keepsWires("reduce"));
    }

    private static void reduceNeeded() {
        due("none is needed", done(unneeded(ofGates(9))).reduce(), 0);
        Forge forge = done(THREE + ".names t c b a y\n-111 1\n.names a c b t\n111 1\n.end");
        due("gates", forge.graph(2), 4);
        due("a gate that no output needs has no place", forge.reduce(), 2);
        isGate(forge, 4, 4, 6);
        isGate(forge, 5, 2, 8);
        due("y", forge.output(0), 10);
    }

    private static void likeZero() {
        Forge forge = done(TWO + ".names a b a y\n110 1\n.end");
        due("reduce()", forge.reduce(), 1);
        due("y is 0", forge.output(0), 0);
        due("reduce() again", forge.reduce(), 0);
        Forge one = done(".inputs a b c\n.outputs z\n.names y t z\n01 1\n.names a b a y\n110 1\n.names a c a t\n"
                + "110 0\n.end");
        due("reduce()", one.reduce(), 2);
        due("z is 1", one.output(0), 1);
    }

    private static void likeInput() {
        Forge forge = done(TWO + ".names a b y\n11 1\n10 1\n.end");
        due("reduce()", forge.reduce(), 2);
        due("y is a", forge.output(0), 2);
        Forge opposite = done(TWO + ".names a b y\n11 0\n10 0\n.end");
        due("reduce()", opposite.reduce(), 2);
        due("y is not a", opposite.output(0), 3);
        Forge last = done(EIGHT + ".outputs y\n.names h g y\n11 1\n10 1\n.end");
        due("reduce()", last.reduce(), 2);
        due("y is h", last.output(0), 16);
    }

    private static void likeGate() {
        Forge forge = done(TWO + ".names a b b y\n111 1\n.end");
        due("reduce()", forge.reduce(), 1);
        isGate(forge, 3, 2, 4);
        due("y", forge.output(0), 6);
        Forge twins = done(".inputs a b c\n.outputs y z\n.names a b c y\n111 1\n.names c b a z\n111 1\n.end");
        due("reduce()", twins.reduce(), 3);
        due("y", twins.output(0), 10);
        due("z is y", twins.output(1), 10);
    }

    private static void likeOpposite() {
        Forge forge = done(".inputs a b\n.outputs y z\n.names a b y\n11 1\n.names a b z\n0- 1\n-0 1\n.end");
        due("reduce()", forge.reduce(), 1);
        due("y", forge.output(0), 6);
        due("z is not y", forge.output(1), 7);
        Forge gate = done(".inputs a b c\n.outputs y z\n.names a b y\n00 0\n.names a b z\n10 1\n-1 1\n.end");
        due("gates", gate.graph(2), 3);
        due("reduce()", gate.reduce(), 2);
        due("z is y", gate.output(1), gate.output(0));
    }

    private static void almostAlike() {
        String and = ".names a b c d p\n1111 1\n.names e f g h q\n1111 1\n";
        Forge forge = done(EIGHT + ".outputs y z\n.names p q y\n11 1\n" + and
                + ".names p e f g r\n1111 1\n.names r h z\n10 1\n.end");
        int gates = forge.graph(2);
        due("1 for one of 256 inputs alone", forge.reduce(), gates);
        due("y for all", forge.value(255), 1);
        due("z for all but h", forge.value(127), 2);
        Forge late = done(EIGHT + ".outputs y z\n.names a b y\n11 1\n.names p q x\n11 1\n" + and
                + ".names a b x z\n110 1\n.end");
        gates = late.graph(2);
        due("unlike for the last inputs alone", late.reduce(), gates);
        due("which are 255", late.differ(0, 1), 255);
        Forge first = done(EIGHT + ".outputs y\n.names p q y\n11 1\n.names a b c d p\n0000 1\n.names e f g h q\n"
                + "0000 1\n.end");
        due("1 for the first inputs alone", first.reduce(), 7);
    }

    private static void unlike() {
        Forge forge = done(XOR);
        due("reduce()", forge.reduce(), 3);
        isGate(forge, 3, 2, 5);
        isGate(forge, 4, 3, 4);
        isGate(forge, 5, 7, 9);
        due("y", forge.output(0), 11);
        Forge above = done(THREE + ".names t c y\n11 1\n.names a b t\n11 1\n10 1\n.end");
        due("reduce()", above.reduce(), 3);
        isGate(above, 6, 2, 6);
        due("y is a and c", above.output(0), 12);
    }

    // ---- rewriting

    private static void rewriting() {
        says("Rewrites: how many gates there are then; no cover.", () -> dropsCover("rewrite"));
        says("A gate's BEST cut of at most four nodes", GraphEdgesTest::cutOfFour);
        says("If the cost is below how many are freed", GraphEdgesTest::costBelowFreed);
        says("FREED are the gate, and those between that no output is", GraphEdgesTest::freedButOutputs);
        says("(nor the opposite of)", GraphEdgesTest::freedButOpposites);
        says("that no gate uses that an output needs, but gates between", GraphEdgesTest::freedButUsed);
        says("the products of some of the cut's nodes and opposites (.. or none: the product 1)",
                GraphEdgesTest::productOne);
        says("the least one, that is 1 in the table, and in which no product of the sum is 1",
                GraphEdgesTest::leastBit);
        says("the prime that is 1 there with the fewest nodes", GraphEdgesTest::fewestNodes);
        says("of several that with the least number", GraphEdgesTest::leastNumber);
        says("0 for the table 0 or 1", GraphEdgesTest::fixedTables);
        says("in the order of the cut, one after the other", GraphEdgesTest::orderOfCut);
        says("Otherwise it is the AND of the new ones of its two. (rewrite)", GraphEdgesTest::notRewritten);
        says("The outputs' literals are the new ones. (rewrite)", () -> keepsWires("rewrite"));
    }

    private static void cutOfFour() {
        Forge four = done(".inputs a b c d\n.outputs y\n.names b c a d c y\n10011 1\n.end");
        due("of four inputs, with c and not c", four.rewrite(), 3);
        due("y is 0", four.output(0), 0);
        Forge five = done(".inputs a b c d e\n.outputs y\n.names a b c d e y\n11111 1\n.end");
        due("of five inputs", five.rewrite(), 4);
        isGate(five, 9, 10, 16);
        Forge unneeded = done(unneeded(ofGates(9)));
        due("none is needed", unneeded.rewrite(), 0);
    }

    private static void costBelowFreed() {
        Forge same = done(".inputs a b c\n.outputs y\n.names c b a y\n101 1\n.end");
        due("as many as are freed", same.rewrite(), 2);
        isGate(same, 4, 5, 6);
        isGate(same, 5, 2, 8);
        Forge below = done(THREE + ".names p q y\n11 1\n.names a b p\n11 1\n.names a c q\n11 1\n.end");
        due("one below", below.rewrite(), 3);
        isGate(below, 4, 2, 4);
        isGate(below, 5, 2, 6);
        isGate(below, 6, 6, 8);
        due("y", below.output(0), 12);
        due("rewrite() again", below.rewrite(), 2);
    }

    private static void freedButOutputs() {
        Forge forge = done(".inputs a b c\n.outputs y p\n.names p q y\n11 1\n.names a b p\n11 1\n.names a c q\n"
                + "11 1\n.end");
        due("p is an output", forge.rewrite(), 3);
        isGate(forge, 6, 8, 10);
    }

    private static void freedButOpposites() {
        Forge forge = done(".inputs a b c\n.outputs y p\n.names p q y\n01 1\n.names a b p\n11 0\n.names a c q\n"
                + "11 1\n.end");
        due("not p is an output", forge.rewrite(), 3);
        isGate(forge, 6, 8, 10);
        due("p", forge.output(1), 9);
    }

    private static void freedButUsed() {
        String text = ".inputs a b c d\n.outputs y%s\n.names z p q y\n-11 1\n.names a b p\n11 1\n.names a c q\n11 1\n"
                + ".names p d z\n11 1\n.end";
        Forge used = done(String.format(text, " z"));
        due("an output needs what uses p", used.rewrite(), 4);
        due("y", used.output(0), 16);
        isGate(used, 8, 10, 14);
        Forge unused = done(String.format(text, ""));
        due("no output needs what uses p", unused.rewrite(), 3);
        isGate(unused, 7, 6, 10);
        Forge between = done(TWO + ".names b a b b y\n1111 1\n11-1 1\n.end");
        due("gates between use it, freed or not", between.rewrite(), 1);
        due("y", between.output(0), 6);
    }

    private static void productOne() {
        Forge forge = done(".inputs a b c\n.outputs z\n.names y t z\n01 1\n.names a b a y\n110 1\n"
                + ".names a c a t\n110 0\n.end");
        due("rewrite()", forge.rewrite(), 2);
        due("z is 1", forge.output(0), 1);
        Forge one = done(TWO + ".names a b y\n11 1\n10 1\n.end");
        due("a product of one node", one.rewrite(), 2);
        due("y is a", one.output(0), 2);
    }

    private static void leastBit() {
        Forge forge = done(TWO + ".names b a b y\n101 1\n-10 1\n.end");
        due("rewrite()", forge.rewrite(), 5);
        isGate(forge, 5, 3, 5);
        isGate(forge, 6, 2, 4);
        isGate(forge, 7, 11, 13);
        due("y", forge.output(0), 14);
    }

    private static void fewestNodes() {
        Forge forge = done(".inputs a b c d\n.outputs y\n.names b d c a y\n1110 0\n11-1 0\n.end");
        due("rewrite()", forge.rewrite(), 6);
        isGate(forge, 9, 3, 7);
        isGate(forge, 10, 10, 19);
        due("y", forge.output(0), 21);
    }

    private static void leastNumber() {
        Forge forge = done(THREE + ".names a c c b y\n1100 0\n1111 0\n.end");
        due("rewrite()", forge.rewrite(), 5);
        isGate(forge, 7, 2, 4);
        isGate(forge, 8, 6, 14);
        due("y", forge.output(0), 17);
        Forge ring = done(THREE + ".names a b c a b y\n00000 0\n11111 0\n.end");
        due("a but b, b but a, a but c, c but a", ring.rewrite(), 11);
        int[][] want = {{2, 5}, {3, 4}, {17, 19}, {2, 7}, {20, 23}, {3, 6}, {24, 27}};
        for (int k = 0; k < want.length; k++) {
            isGate(ring, 8 + k, want[k][0], want[k][1]);
        }
        due("y", ring.output(0), 29);
    }

    private static void fixedTables() {
        Forge zero = done(TWO + ".names a b a y\n110 1\n.end");
        due("0", zero.rewrite(), 1);
        due("y", zero.output(0), 0);
        Forge alone = done(".inputs a b\n.outputs y t\n.names t a y\n10 1\n.names a b t\n11 1\n.end");
        due("0, where one gate is freed", alone.rewrite(), 1);
        due("y", alone.output(0), 0);
        due("t", alone.output(1), 6);
        Forge below = done(TWO + ".names a b a y\n11- 0\n110 0\n.end");
        due("a gate that is 0 below another", below.rewrite(), 1);
        due("y", below.output(0), 7);
    }

    private static void orderOfCut() {
        Forge forge = done(THREE + ".names b c a a y\n0111 1\n.end");
        due("rewrite()", forge.rewrite(), 4);
        isGate(forge, 6, 2, 5);
        isGate(forge, 7, 6, 12);
        due("y", forge.output(0), 14);
        Forge tie = done(".inputs a b c d e\n.outputs y\n.names d e b a c y\n00011 1\n0000- 1\n.end");
        due("of cuts of the same depth and as many nodes the least", tie.rewrite(), 7);
        isGate(tie, 11, 2, 7);
        isGate(tie, 12, 14, 23);
        due("y", tie.output(0), 24);
    }

    private static void notRewritten() {
        Forge forge = done(XOR);
        due("rewrite()", forge.rewrite(), 3);
        isGate(forge, 3, 2, 5);
        isGate(forge, 4, 3, 4);
        isGate(forge, 5, 7, 9);
        due("y", forge.output(0), 11);
    }

    // ---- what is too great

    private static void tooGreat() {
        says("If there would be a 201st gate, the call is TOO GREAT (read)", GraphEdgesTest::readTooGreat);
        says("If there would be a 201st gate, the call is TOO GREAT (balance, reduce)",
                GraphEdgesTest::twoHundredAnew);
        says("If there would be a 201st gate, the call is TOO GREAT (rewrite)", GraphEdgesTest::rewriteTooGreat);
        says("so is rewriting where a gate .. has more than 300 cuts that aren't spare", GraphEdgesTest::manyCuts);
        says("(any, also one that no output needs)", GraphEdgesTest::manyCutsUnneeded);
    }

    private static void readTooGreat() {
        due("200 gates", done(ofGates(200)).graph(2), 200);
        due("200 that no output needs", done(unneeded(ofGates(200))).graph(2), 200);
        String great = ofGates(201);
        Forge forge = done(XOR);
        forge.cover(2);
        anew(forge, great);
        Forge before = forge.copy();
        thrown("read() of 201 gates", TOO_GREAT, () -> forge.read());
        same("behind read() that throws", allOf(forge), allOf(before));
        due("the graph stays", forge.graph(2), 3);
        due("the cover stays", forge.depth(), 1);
        forge.end(great.length() - 9);
        feed(forge, ".end");
        due("read() with a row less", forge.read(), 0);
        due("200 gates", forge.graph(2), 200);
        thrown("201 that no output needs", TOO_GREAT, () -> with(unneeded(great)).read());
    }

    /** Both make no more gates than there were, so the most that there can be is no hindrance. */
    private static void twoHundredAnew() {
        String text = unlikeGates();
        due("200 gates", done(text).graph(2), 200);
        due("balance()", done(text).balance(), 200);
        due("reduce()", done(text).reduce(), 200);
    }

    private static void rewriteTooGreat() {
        Forge most = done(woven("a b c d e f", "Aa Z Y X",
                "a b c A;c e B;A e C;e B D;A f E;f D F;C F B G;C A E H;C H I;"
                + "D I D J;G J G K;I E J L;H J M;I L N;J M K O;O M J P;L P Q;M L R;"
                + "R L R S;M S T;Q N O U;S S O V;P P T W;W Q R X;X U Y;S U W Z;T Y Y Aa"));
        due("200 gates", most.rewrite(), 200);
        due("all of them", most.graph(2), 200);
        Forge great = done(woven("a b c d e f", "Ab Aa Z Y",
                "a b c A;c e B;A e C;e B D;A f E;f A F;C F B G;C A E H;C H I;"
                + "D I D J;G J G K;I E J L;H J M;I L N;J M K O;O M J P;L P Q;M L R;"
                + "R L R S;M S T;Q N O U;S S O V;S Q S W;W Q R X;X U Y;V S Z;T Y Y Aa;Y Y Aa Ab"));
        great.cover(3);
        Forge before = great.copy();
        thrown("201 gates", TOO_GREAT, () -> great.rewrite());
        same("behind rewrite() that throws", allOf(great), allOf(before));
        due("the cover stays", great.depth() > 0 ? 1 : 0, 1);
    }

    private static void manyCuts() {
        due("300 cuts", done(ofCutsOfFour(300)).rewrite() > 0 ? 1 : 0, 1);
        Forge great = done(ofCutsOfFour(301));
        great.cover(3);
        Forge before = great.copy();
        thrown("301 cuts", TOO_GREAT, () -> great.rewrite());
        same("behind rewrite() that throws", allOf(great), allOf(before));
        due("balance() does without cuts", great.copy().balance() > 0 ? 1 : 0, 1);
        due("reduce() does without cuts", great.copy().reduce() > 0 ? 1 : 0, 1);
        due("as many of five nodes are no hindrance", done(ofCutsOfFive(301)).rewrite() > 0 ? 1 : 0, 1);
    }

    private static void manyCutsUnneeded() {
        due("300 cuts", done(unneeded(ofCutsOfFour(300))).rewrite(), 0);
        Forge great = done(unneeded(ofCutsOfFour(301)));
        thrown("301 cuts", TOO_GREAT, () -> great.rewrite());
        due("behind balance() that gate is gone", great.balance(), 0);
        due("rewrite()", great.rewrite(), 0);
    }
}
