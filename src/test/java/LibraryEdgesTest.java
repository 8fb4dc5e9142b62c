import java.util.Arrays;

/** Promises 20 to 25 and section 4 of the terms: each sentence that names a boundary case has a test of its own. */
public final class LibraryEdgesTest extends Checks {
    private static final String AND = ".inputs a b\n.outputs y\n.names a b y\n11 1\n.end";
    private static final String AND3 = ".inputs a b c\n.outputs y\n.names a b c y\n111 1\n.end";
    private static final String XNOR = ".inputs a b\n.outputs y\n.names a b y\n11 1\n00 1\n.end";
    private static final String WIRES = ".inputs a b\n.outputs a zero one\n.names zero\n.names one\n1\n.end\n";
    private static final String NOT = ".inputs a\n.outputs y\n.names a y\n0 1\n.end";

    public static void main(String[] args) {
        lines();
        words();
        faults();
        reading();
        libraryCells();
        matches();
        chosen();
        mapping();
        asking();
        texts();
        endTests();
    }

    // ---- the text of a library

    private static void lines() {
        says("lines and words as in 1", LibraryEdgesTest::linesAndWords);
        says("one to twelve lines cell", LibraryEdgesTest::mostCells);
        says("The last line is .end alone", LibraryEdgesTest::endAlone);
        says("and no other line comes behind it", LibraryEdgesTest::behindEnd);
    }

    private static void linesAndWords() {
        Forge forge = isLibrary("# cells\n\n   cell   a  3   2  10   # x\n#\n  .end  # y\n\n");
        due("area", forge.libraryCell(0, 0), 3);
        due("delay", forge.libraryCell(0, 1), 2);
        noLibrary("cell a 1 1 10 .end", 1, 0);
        noLibrary("cell\na 1 1 10\n.end", 1, 0);
        noLibrary("cell a 1 1 # 10\n.end", 1, 0);
        noLibrary("cell a 1 1 10\n# .end", 1, 2);
    }

    private static String manyCells(int count) {
        StringBuilder text = new StringBuilder();
        for (int i = 0; i < count; i++) {
            text.append("cell c").append(i).append(' ').append(i).append(" 1 0110\n");
        }
        return text.toString();
    }

    private static void mostCells() {
        noLibrary(".end", 1, 0);
        noLibrary("\n#\n.end", 1, 2);
        Forge one = isLibrary(manyCells(1) + ".end");
        due("one", one.libraryCell(0, 0), 0);
        thrown("no second one", PLACE, () -> one.libraryCell(1, 0));
        Forge twelve = isLibrary(manyCells(12) + ".end");
        due("the twelfth", twelve.libraryCell(11, 0), 11);
        thrown("no thirteenth", PLACE, () -> twelve.libraryCell(12, 0));
        Forge pins = done(AND3);
        for (int n = 0; n < 4; n++) {
            kit(pins, manyCells(11).replace("0110", "01101000") + "cell and 1 1 00000001\n.end");
            due("map() with twelve cells of three pins", pins.map(), 1);
            isInstance(pins, 0, 10, 11, 1, 2, 4, 6);
        }
        noLibrary(manyCells(13) + ".end", 1, 12);
        noLibrary(manyCells(14) + ".end", 1, 12);
        noLibrary(manyCells(12) + "\n# x\n" + "cell x 1 1 10\n.end", 1, 14);
        noLibrary(manyCells(12) + "cell c0 1 1 10\n.end", 1, 12);
    }

    private static void endAlone() {
        noLibrary("cell a 1 1 10", 1, 1);
        noLibrary("cell a 1 1 10\n", 1, 2);
        noLibrary("cell a 1 1 10\n.end a", 1, 1);
        noLibrary("cell a 1 1 10\n.end .end", 1, 1);
        noLibrary("cell a 1 1 10\n.ends", 1, 1);
        noLibrary("cell a 1 1 10\n.END", 1, 1);
        noLibrary("cell a 1 1 10\nend", 1, 1);
        noLibrary(manyCells(12), 1, 13);
        isLibrary("cell a 1 1 10\n.end");
        isLibrary("cell a 1 1 10\n.end\n");
    }

    private static void behindEnd() {
        noLibrary("cell a 1 1 10\n.end\n.end", 1, 2);
        noLibrary("cell a 1 1 10\n.end\ncell b 1 1 10", 1, 2);
        noLibrary("cell a 1 1 10\n.end\ncell a 1 1 10", 1, 2);
        noLibrary("cell a 1 1 10\n.end\n\n#\nx\n", 1, 4);
        isLibrary("cell a 1 1 10\n.end\n\n   \n# x\n");
    }

    private static void words() {
        says("lines cell, a NAME, an AREA .., a DELAY .., and a TABLE", LibraryEdgesTest::fiveWords);
        says("an AREA (a word of one to three digits)", LibraryEdgesTest::areas);
        says("a DELAY (one or two digits, not 0)", LibraryEdgesTest::delays);
        says("a TABLE, a word of 2, 4 or 8 signs 0 and 1", LibraryEdgesTest::tables);
        says("a CELL with 1, 2 or 3 PINS, which gives sign i if the ones and zeros at its pins are the bits of i",
                LibraryEdgesTest::pins);
        says("a NAME (library)", LibraryEdgesTest::names);
    }

    private static void fiveWords() {
        String[] bad = {"cell", "cell a", "cell a 1", "cell a 1 1", "cell a 1 1 10 10", "cell a 1 1 10 x y z",
            "Cell a 1 1 10", "cells a 1 1 10", ".cell a 1 1 10", "a 1 1 10", "cell 1 1 10", "a 1 1 10 cell",
            ".inputs a", ".names a", "1 1", "cell a 1 1 10 10 10 10 10 10 10 10"};
        for (String line : bad) {
            noLibrary(line + "\n.end", 1, 0);
            noLibrary("cell z 1 1 10\n" + line + "\n.end", 1, 1);
        }
    }

    private static void areas() {
        String[] words = {"0", "9", "10", "99", "100", "999", "00", "000", "007", "090"};
        int[] want = {0, 9, 10, 99, 100, 999, 0, 0, 7, 90};
        for (int k = 0; k < words.length; k++) {
            due("area " + words[k], isLibrary("cell a " + words[k] + " 1 10\n.end").libraryCell(0, 0), want[k]);
        }
        String[] bad = {"1000", "0000", "0999", "12345678901", "-1", "+1", "1.", "x", "1x", "x1", "/", ":", "1e1"};
        for (String word : bad) {
            noLibrary("cell a " + word + " 1 10\n.end", 1, 0);
        }
    }

    private static void delays() {
        String[] words = {"1", "9", "10", "99", "01", "09"};
        int[] want = {1, 9, 10, 99, 1, 9};
        for (int k = 0; k < words.length; k++) {
            due("delay " + words[k], isLibrary("cell a 1 " + words[k] + " 10\n.end").libraryCell(0, 1), want[k]);
        }
        String[] bad = {"0", "00", "000", "001", "100", "999", "-1", "+1", "x", "1x", "x1", "/", ":"};
        for (String word : bad) {
            noLibrary("cell a 1 " + word + " 10\n.end", 1, 0);
        }
    }

    private static void tables() {
        for (int length = 1; length <= 33; length++) {
            String text = "cell a 1 1 " + "1".repeat(length) + "\n.end";
            if (length == 2 || length == 4 || length == 8) {
                int pins = length == 2 ? 1 : length == 4 ? 2 : 3;
                Forge forge = isLibrary(text);
                due("pins of " + length + " signs", forge.libraryCell(0, 2), pins);
                due("table of " + length + " ones", forge.libraryCell(0, 3), (1 << length) - 1);
                due("of zeros", isLibrary(text.replace("1".repeat(length) + "\n", "0".repeat(length) + "\n"))
                        .libraryCell(0, 3), 0);
            } else {
                noLibrary(text, 1, 0);
            }
        }
        String[] bad = {"1-", "-1", "12", "21", "111x", "x111", "1111111-", "/111", "2111", ".111"};
        for (String word : bad) {
            noLibrary("cell a 1 1 " + word + "\n.end", 1, 0);
        }
        due("sign 0 is bit 0", isLibrary("cell a 1 1 10\n.end").libraryCell(0, 3), 1);
        due("sign 7 is bit 7", isLibrary("cell a 1 1 00000001\n.end").libraryCell(0, 3), 128);
        due("signs 0 and 6", isLibrary("cell a 1 1 10000010\n.end").libraryCell(0, 3), 65);
    }

    private static void pins() {
        Forge forge = done(".inputs a b\n.outputs y\n.names a b y\n10 1\n.end");
        kit(forge, "cell but 1 1 0100\n.end");
        due("a but b", forge.map(), 1);
        isInstance(forge, 0, 6, 0, 1, 2, 4);
        kit(forge, "cell but 1 1 0010\n.end");
        due("the second pin but the first one", forge.map(), 1);
        isInstance(forge, 0, 6, 0, 1, 4, 2);
        Forge choice = done(".inputs a b c\n.outputs y\n.names a b c y\n11- 1\n0-1 1\n.end");
        kit(choice, "cell mux 1 1 00011011\n.end");
        due("the first pin chooses the second one or the third one", choice.map(), 1);
        due("of a, b, c", choice.instance(0, 3) * 100 + choice.instance(0, 4) * 10 + choice.instance(0, 5), 246);
        kit(choice, "cell mux 1 1 00110101\n.end");
        due("the third pin chooses the first one or the second one", choice.map(), 1);
        due("of b, c, a", choice.instance(0, 3) * 100 + choice.instance(0, 4) * 10 + choice.instance(0, 5), 462);
    }

    private static void names() {
        isLibrary("cell abcdefgh 1 1 10\n.end");
        isLibrary("cell _ 1 1 10\n.end");
        isLibrary("cell 0 1 1 10\n.end");
        isLibrary("cell cell 1 1 10\n.end");
        noLibrary("cell abcdefghi 1 1 10\n.end", 1, 0);
        noLibrary("cell a-b 1 1 10\n.end", 1, 0);
        noLibrary("cell .end 1 1 10\n.end", 1, 0);
    }

    // ---- faults

    private static void faults() {
        says("1 a line (or the end) that can't come there or isn't as it must be, or is the 13th cell",
                LibraryEdgesTest::one);
        says("2 a name that a cell has already", LibraryEdgesTest::two);
        says("of a line 1 goes first (library)", LibraryEdgesTest::oneGoesFirst);
        says("FAULTS, a kind at a line as in 1", LibraryEdgesTest::faultLines);
    }

    private static void one() {
        noLibrary("x\n.end", 1, 0);
        noLibrary("cell a 1 1 10\nx\n.end", 1, 1);
        noLibrary(XOR, 1, 0);
        noLibrary(manyCells(13), 1, 12);
        noLibrary(manyCells(11), 1, 12);
        noLibrary("", 1, 1);
    }

    private static void two() {
        noLibrary("cell a 1 1 10\ncell a 1 1 10\n.end", 2, 1);
        noLibrary("cell a 1 1 10\ncell b 1 1 10\ncell c 1 1 10\n\ncell b 2 2 0001\n.end", 2, 4);
        noLibrary(manyCells(11) + "cell c10 1 1 10\n.end", 2, 11);
        noLibrary(manyCells(11) + "cell c0 1 1 10\n.end", 2, 11);
        isLibrary("cell a 1 1 10\ncell A 1 1 10\ncell aa 1 1 10\n.end");
    }

    private static void oneGoesFirst() {
        noLibrary("cell a 1 1 10\ncell a 1 1 1\n.end", 1, 1);
        noLibrary("cell a 1 1 10\ncell a 1000 1 10\n.end", 1, 1);
        noLibrary("cell a 1 1 10\ncell a 1 0 10\n.end", 1, 1);
        noLibrary("cell a 1 1 10\ncell a 1 1 10 10\n.end", 1, 1);
        noLibrary(manyCells(12) + "cell c3 1 1 10\n.end", 1, 12);
        noLibrary("cell a 1 1 10\ncell a 1 1 10\nx", 2, 1);
        noLibrary("cell a 1 1 10\nx\ncell a 1 1 10\n.end", 1, 1);
    }

    private static void faultLines() {
        noLibrary("\n\n#\nx", 1, 3);
        noLibrary("", 1, 1);
        noLibrary("\n", 1, 2);
        noLibrary("cell a 1 1 10\n\n#", 1, 3);
        noLibrary("\ncell a 1 1 10\n\ncell a 1 1 10", 2, 3);
    }

    // ---- promises 20 and 21

    private static void reading() {
        says("Reads the text as a library: 0, and it is the library", LibraryEdgesTest::isTheLibrary);
        says("or its fault's kind (the library stays)", LibraryEdgesTest::libraryStays);
    }

    private static void isTheLibrary() {
        Forge forge = isLibrary(manyCells(12) + ".end");
        anew(forge, "cell x 7 3 01\n.end");
        due("line() before it is read", forge.line(), NONE);
        due("the one before", forge.libraryCell(11, 0), 11);
        due("library()", forge.library(), 0);
        due("its cell", forge.libraryCell(0, 0), 7);
        thrown("no other", PLACE, () -> forge.libraryCell(1, 0));
        thrown("no netlist", STATE, () -> forge.graph(0));
        Forge covered = mappedBy(XOR, NANDS);
        covered.cover(2);
        anew(covered, "cell xor 1 1 0110\n.end");
        due("library()", covered.library(), 0);
        due("the graph stays", covered.graph(2), 3);
        due("the cover stays", covered.depth(), 1);
        thrown("nothing is mapped any more", STATE, () -> covered.mapped(0));
        due("map()", covered.map(), 1);
        due("its area", covered.mapped(1), 1);
        due("its time", covered.mapped(2), 1);
    }

    private static void libraryStays() {
        String[] faulty = {"", ".end", "cell q 9 9 01", "cell q 9 9 01\ncell q 9 9 01\n.end", manyCells(13) + ".end",
            "cell q 9 9 01\n.end\nx", XOR};
        int[] kinds = {1, 1, 1, 2, 1, 1, 1};
        for (int k = 0; k < faulty.length; k++) {
            Forge forge = mappedBy(XOR, NANDS);
            forge.cover(2);
            anew(forge, faulty[k]);
            Forge before = forge.copy();
            due("library() of <<" + faulty[k] + ">>", forge.library(), kinds[k]);
            same("behind the fault", allButLine(forge), allButLine(before));
            due("the library stays", forge.libraryCell(1, 0), 2);
            due("the mapping stays", forge.mapped(0), 5);
        }
    }

    private static void libraryCells() {
        says("0 its area, 1 its delay, 2 how many pins, 3 its table (bit i sign i)", LibraryEdgesTest::askedCells);
        says("IndexOutOfBoundsException if there is no such cell", LibraryEdgesTest::noSuchCell);
        says("IllegalArgumentException for another what. (libraryCell)", LibraryEdgesTest::otherOfCell);
    }

    private static void askedCells() {
        Forge forge = isLibrary("cell inv 012 07 10\ncell nor 3 20 1000\ncell mux 999 99 01010011\n.end");
        int[][] want = {{12, 7, 1, 1}, {3, 20, 2, 1}, {999, 99, 3, 0b11001010}};
        for (int i = 0; i < 3; i++) {
            for (int what = 0; what < 4; what++) {
                due("libraryCell(" + i + ", " + what + ")", forge.libraryCell(i, what), want[i][what]);
            }
        }
    }

    private static void noSuchCell() {
        int[] bad = {-1, 2, 3, 11, 12, LEAST, GREATEST};
        Forge forge = isLibrary(NANDS);
        for (int i : bad) {
            for (int what = -1; what <= 4; what++) {
                int asked = what;
                thrown("libraryCell(" + i + ", " + what + ")", PLACE, () -> forge.libraryCell(i, asked));
            }
        }
        due("the last one", forge.libraryCell(1, 0), 2);
        Forge none = new Forge();
        thrown("without a library", PLACE, () -> none.libraryCell(0, 0));
        thrown("without a library", PLACE, () -> none.libraryCell(0, 9));
    }

    private static void otherOfCell() {
        Forge forge = isLibrary(NANDS);
        int[] bad = {-1, 4, 5, LEAST, GREATEST};
        for (int what : bad) {
            thrown("libraryCell(1, " + what + ")", ARGUMENT, () -> forge.libraryCell(1, what));
        }
        due("libraryCell(1, 3)", forge.libraryCell(1, 3), 7);
    }

    // ---- matches

    private static void matches() {
        says("An input's own literal is GIVEN, at TIME 0.", LibraryEdgesTest::given);
        says("Other literals (not 0 and 1) may be MADE", LibraryEdgesTest::notFixedOnes);
        says("the nodes at its pins are those of a cut of the gate for K 3 that isn't spare",
                LibraryEdgesTest::cutOfThree);
        says("the nodes at its pins are those of a cut (all tables)", LibraryEdgesTest::allTables);
        says("each once (itself or its opposite)", LibraryEdgesTest::eachOnce);
        says("and the cell gives the literal, whatever the nodes of the cut are", LibraryEdgesTest::whatever);
        says("A TURN is a match of any literal: a cell with the table 10", LibraryEdgesTest::turns);
        says("and the opposite, which is given, or has a plain match", LibraryEdgesTest::turnOfPlain);
        says("A match's time is its cell's delay more than the greatest time at its pins.", LibraryEdgesTest::times);
    }

    private static void given() {
        Forge forge = mappedBy(WIRES, NANDS);
        due("no instances", forge.mapped(0), 0);
        due("no area", forge.mapped(1), 0);
        due("no time", forge.mapped(2), 0);
        Forge buffered = mappedBy(WIRES, "cell buf 0 1 01\n.end");
        due("no cell makes what is given", buffered.mapped(0), 0);
    }

    private static void notFixedOnes() {
        Forge forge = mappedBy(".inputs a\n.outputs y z\n.names y\n.names z\n1\n.end",
                "cell one 1 1 11\ncell zero 1 1 00\n.end");
        due("0 and 1 are not made", forge.mapped(0), 0);
        due("their time", forge.mapped(2), 0);
        thrown("no instance", PLACE, () -> forge.instance(0, 0));
    }

    private static void cutOfThree() {
        due("three pins for a cut of two nodes", kit(done(AND), "cell and 1 1 00000001\n.end").map(), NONE);
        due("three pins, one of them unasked", kit(done(AND), "cell and 1 1 00010001\n.end").map(), NONE);
        due("three pins for a cut of three", kit(done(AND3), "cell and 1 1 00000001\n.end").map(), 1);
        due("one pin", kit(done(AND), "cell buf 1 1 01\n.end").map(), NONE);
        Forge four = done(".inputs a b c d\n.outputs y\n.names a b c d y\n1111 1\n.end");
        due("four nodes are too many", kit(four, "cell and3 1 1 00000001\n.end").map(), NONE);
        due("with two", kit(four, "cell and3 1 1 00000001\ncell and2 1 1 0001\n.end").map(), 2);
        isInstance(four, 0, 10, 1, 1, 2, 4);
        isInstance(four, 1, 14, 0, 2, 6, 8, 10);
        Forge spare = done(".inputs a b\n.outputs y\n.names a b a y\n111 1\n.end");
        due("a cut that is spare", kit(spare, "cell and 1 1 00000001\n.end").map(), NONE);
        due("one that isn't", kit(spare, "cell and 1 1 0001\n.end").map(), 1);
    }

    /** An AND of two nodes is made by no cell of one or three pins, and, without an inverter, by one of two alone. */
    private static void allTables() {
        for (int width = 2; width <= 8; width *= 2) {
            for (int table = 0; table < 1 << width; table++) {
                StringBuilder signs = new StringBuilder();
                for (int i = 0; i < width; i++) {
                    signs.append(table >> i & 1);
                }
                String cells = "cell x 1 1 " + signs + "\n.end";
                due("of two with " + cells, kit(done(AND), cells).map(), width == 4 && table == 8 ? 1 : NONE);
                int instances = width == 4 && table == 8 ? 2 : width == 8 && table == 128 ? 1 : NONE;
                due("of three with " + cells, kit(done(AND3), cells).map(), instances);
            }
        }
    }

    private static void eachOnce() {
        Forge turned = done(".inputs a b\n.outputs y\n.names a b y\n10 1\n.end");
        due("an opposite that can't be made", kit(turned, "cell and 1 1 0001\n.end").map(), NONE);
        due("an opposite that can", kit(turned, "cell and 1 1 0001\ncell inv 1 1 10\n.end").map(), 2);
        isInstance(turned, 0, 5, 1, 1, 4);
        isInstance(turned, 1, 6, 0, 2, 2, 5);
        Forge or = done(".inputs a b\n.outputs y\n.names a b y\n00 0\n.end");
        due("not a node twice", kit(or, "cell maj 1 1 00010111\n.end").map(), NONE);
    }

    private static void whatever() {
        String text = ".inputs a b c\n.outputs y p q\n.names a b p\n11 1\n.names a c q\n01 1\n.names p q y\n"
                + "11 1\n.end";
        Forge forge = done(text);
        due("of nodes that are never 1 together", kit(forge, "cell and 1 1 0001\ncell but 1 1 0010\n"
                + "cell zero 1 1 0000\n.end").map(), 3);
        due("y is 0 by the three inputs, but no cell of three pins is", forge.instance(2, 1), 0);
        due("with one", kit(forge, "cell and 1 5 0001\ncell but 1 5 0010\ncell zero 1 1 00000000\n.end").map(), 3);
        due("it is made by that", forge.instance(2, 1), 2);
    }

    private static void turns() {
        due("an inverter", kit(done(NOT), "cell inv 1 1 10\n.end").map(), 1);
        due("no inverter", kit(done(NOT), "cell buf 1 1 01\n.end").map(), NONE);
        due("nor this one", kit(done(NOT), "cell one 1 1 11\n.end").map(), NONE);
        due("nor this one", kit(done(NOT), "cell zero 1 1 00\n.end").map(), NONE);
        due("nor one of two pins", kit(done(NOT), "cell inv 1 1 1010\n.end").map(), NONE);
        Forge forge = mappedBy(NOT, "cell inv 4 3 10\n.end");
        isInstance(forge, 0, 3, 0, 3, 2);
    }

    private static void turnOfPlain() {
        Forge forge = mappedBy(AND, "cell nand 2 2 1110\ncell inv 1 1 10\n.end");
        due("a gate by its opposite", forge.mapped(0), 2);
        isInstance(forge, 0, 6, 1, 3, 7);
        isInstance(forge, 1, 7, 0, 2, 2, 4);
        due("without an inverter", kit(done(AND), "cell nand 2 2 1110\n.end").map(), NONE);
        due("without either", kit(done(AND), "cell inv 1 1 10\n.end").map(), NONE);
        Forge nand = done(".inputs a b\n.outputs y\n.names a b y\n11 0\n.end");
        due("the opposite itself", kit(nand, "cell nand 2 2 1110\n.end").map(), 1);
    }

    private static void times() {
        Forge forge = mappedBy(".inputs a b c d e\n.outputs y\n.names a b c d e y\n11111 1\n.end",
                "cell and 999 99 0001\n.end");
        due("four instances", forge.mapped(0), 4);
        due("four areas", forge.mapped(1), 3996);
        due("four delays", forge.mapped(2), 396);
        for (int i = 0; i < 4; i++) {
            due("time of instance " + i, forge.instance(i, 2), 99 * (i + 1));
        }
        Forge first = mappedBy(".inputs a b\n.outputs y\n.names a b y\n01 1\n.end",
                "cell and 1 1 0001\ncell inv 1 5 10\n.end");
        due("the greatest time is at the first pin", first.mapped(2), 6);
        Forge second = mappedBy(".inputs a b\n.outputs y\n.names a b y\n10 1\n.end",
                "cell and 1 1 0001\ncell inv 1 5 10\n.end");
        due("the greatest time is at the second pin", second.mapped(2), 6);
    }

    // ---- which match is chosen

    private static void chosen() {
        says("A literal's plain match is that of the least time", LibraryEdgesTest::leastTime);
        says("of several that of the least area", LibraryEdgesTest::leastArea);
        says("then of the first cell", LibraryEdgesTest::firstCell);
        says("then with the least literal at the first pin, at the second, at the third",
                LibraryEdgesTest::leastLiterals);
        says("Its turn is that of the least time; then of the least area, then of the first cell.",
                LibraryEdgesTest::whichTurn);
        says("It is made by its plain match, or by its turn, if it has no plain one", LibraryEdgesTest::noPlain);
        says("or one of a greater time", LibraryEdgesTest::greaterTime);
        says("or of the same time and a greater area", LibraryEdgesTest::greaterArea);
    }

    private static void leastTime() {
        Forge forge = mappedBy(AND, "cell p 1 3 0001\ncell q 9 2 0001\ncell r 1 3 0001\n.end");
        isInstance(forge, 0, 6, 1, 2, 2, 4);
        Forge three = mappedBy(AND3, "cell and2 1 2 0001\ncell and3 9 3 00000001\n.end");
        due("one of three pins is sooner than two of two", three.mapped(0), 1);
        isInstance(three, 0, 10, 1, 3, 2, 4, 6);
        Forge two = mappedBy(AND3, "cell and2 9 2 0001\ncell and3 1 5 00000001\n.end");
        due("two of two pins are sooner than one of three", two.mapped(0), 2);
        isInstance(two, 1, 10, 0, 4, 6, 8);
    }

    private static void leastArea() {
        Forge forge = mappedBy(AND, "cell p 5 2 0001\ncell q 4 2 0001\ncell r 9 2 0001\n.end");
        isInstance(forge, 0, 6, 1, 2, 2, 4);
        Forge alone = mappedBy(AND3, "cell and2 2 2 0001\ncell and3 3 4 00000001\n.end");
        due("of its own cell alone", alone.mapped(0), 2);
        isInstance(alone, 1, 10, 0, 4, 6, 8);
    }

    private static void firstCell() {
        Forge forge = mappedBy(AND, "cell r 5 2 0001\ncell q 4 2 0001\ncell p 4 2 0001\n.end");
        isInstance(forge, 0, 6, 1, 2, 2, 4);
        Forge three = mappedBy(AND3, "cell and3 1 4 00000001\ncell and2 1 2 0001\n.end");
        isInstance(three, 0, 10, 0, 4, 2, 4, 6);
        Forge two = mappedBy(AND3, "cell and2 1 2 0001\ncell and3 1 4 00000001\n.end");
        isInstance(two, 1, 10, 0, 4, 6, 8);
    }

    private static void leastLiterals() {
        isInstance(mappedBy(AND, "cell and 1 1 0001\n.end"), 0, 6, 0, 1, 2, 4);
        isInstance(mappedBy(AND3, "cell and 1 1 00000001\n.end"), 0, 10, 0, 1, 2, 4, 6);
        Forge xnor = mappedBy(XNOR, "cell inv 3 2 10\ncell xor 1 3 0110\n.end");
        due("2 5, 3 4, 4 3 and 5 2", xnor.mapped(0), 2);
        isInstance(xnor, 0, 5, 0, 2, 4);
        isInstance(xnor, 1, 11, 1, 5, 2, 5);
        Forge parity = done(".inputs a b c\n.outputs y\n.names a b c y\n100 0\n010 0\n001 0\n111 0\n.end");
        kit(parity, "cell inv 3 2 10\ncell xor 1 3 01101001\n.end");
        due("the third of three is turned", parity.map(), 2);
        isInstance(parity, 0, 7, 0, 2, 6);
        due("at the first pin", parity.instance(1, 3), 2);
        due("at the second pin", parity.instance(1, 4), 4);
        due("at the third pin", parity.instance(1, 5), 7);
    }

    private static void whichTurn() {
        isInstance(mappedBy(NOT, "cell p 1 3 10\ncell q 9 2 10\ncell r 1 3 10\n.end"), 0, 3, 1, 2, 2);
        isInstance(mappedBy(NOT, "cell p 5 2 10\ncell q 4 2 10\ncell r 9 2 10\n.end"), 0, 3, 1, 2, 2);
        isInstance(mappedBy(NOT, "cell p 5 2 10\ncell q 4 2 10\ncell r 4 2 10\n.end"), 0, 3, 1, 2, 2);
    }

    private static void noPlain() {
        Forge forge = mappedBy(AND, "cell nand 2 2 1110\ncell inv 99 99 10\n.end");
        isInstance(forge, 0, 6, 1, 101, 7);
        due("an input's opposite has no plain one", mappedBy(NOT, "cell inv 99 99 10\n.end").mapped(2), 99);
    }

    private static void greaterTime() {
        Forge sooner = mappedBy(AND, "cell and 0 4 0001\ncell nand 9 2 1110\ncell inv 9 1 10\n.end");
        isInstance(sooner, 0, 6, 2, 3, 7);
        isInstance(sooner, 1, 7, 1, 2, 2, 4);
        Forge later = mappedBy(AND, "cell and 9 2 0001\ncell nand 0 2 1110\ncell inv 0 1 10\n.end");
        due("a turn of a greater time", later.mapped(0), 1);
        isInstance(later, 0, 6, 0, 2, 2, 4);
    }

    private static void greaterArea() {
        Forge greater = mappedBy(AND, "cell and 2 3 0001\ncell nand 9 2 1110\ncell inv 1 1 10\n.end");
        isInstance(greater, 0, 6, 2, 3, 7);
        Forge same = mappedBy(AND, "cell and 1 3 0001\ncell nand 0 2 1110\ncell inv 1 1 10\n.end");
        due("the same area", same.mapped(0), 1);
        isInstance(same, 0, 6, 0, 3, 2, 4);
        Forge first = mappedBy(AND, "cell inv 1 1 10\ncell nand 0 2 1110\ncell and 1 3 0001\n.end");
        due("the same area, of a later cell", first.mapped(0), 1);
        Forge less = mappedBy(AND, "cell and 1 3 0001\ncell nand 0 2 1110\ncell inv 2 1 10\n.end");
        due("a turn of a greater area", less.mapped(0), 1);
        Forge xnor = mappedBy(XNOR, "cell inv 0 2 10\ncell xor 1 3 0110\n.end");
        isInstance(xnor, 0, 10, 1, 3, 2, 4);
        isInstance(xnor, 1, 11, 0, 5, 10);
    }

    // ---- promise 22

    private static void mapping() {
        says("Maps the graph: how many instances", LibraryEdgesTest::instances);
        says("each output's literal (but 0, 1 and given ones), and what stands at an instance's pins (likewise)",
                LibraryEdgesTest::whatIsMapped);
        says("Maps the graph (another one)", LibraryEdgesTest::anotherGraph);
        says("what stands at an instance's pins", LibraryEdgesTest::greatestGraph);
        says("NONE, and nothing is mapped, if one of them can't be made", LibraryEdgesTest::notMade);
        says("(Nothing is mapped any more behind read(), balance(), reduce(), rewrite() and library() ..)",
                LibraryEdgesTest::dropped);
        says("that do what they tell", LibraryEdgesTest::notDropped);
        says("IllegalStateException if there is no netlist or no library", LibraryEdgesTest::missing);
        says("UnsupportedOperationException if it is too great. (map)", LibraryEdgesTest::tooGreat);
    }

    private static void instances() {
        Forge forge = kit(done(XOR), NANDS);
        due("map()", forge.map(), 5);
        due("map() again", forge.map(), 5);
        int[][] want = {{3, 0, 1, 2}, {5, 0, 1, 4}, {7, 1, 3, 2, 5}, {9, 1, 3, 3, 4}, {11, 1, 5, 7, 9}};
        for (int i = 0; i < 5; i++) {
            for (int what = 0; what < want[i].length; what++) {
                due("instance(" + i + ", " + what + ")", forge.instance(i, what), want[i][what]);
            }
        }
    }

    private static void whatIsMapped() {
        Forge both = mappedBy(".inputs a b\n.outputs y z\n.names a b y\n11 1\n.names a b z\n11 0\n.end", NANDS);
        due("a literal once, though an output and at a pin", both.mapped(0), 2);
        Forge twice = mappedBy(".inputs a b\n.outputs y z\n.names a b y\n11 0\n.names b a z\n11 0\n.end", NANDS);
        due("a literal once, though two outputs'", twice.mapped(0), 1);
        Forge mixed = mappedBy(".inputs a b\n.outputs a zero y one\n.names zero\n.names one\n1\n.names a b y\n"
                + "11 0\n.end", NANDS);
        due("given ones, 0 and 1 are none", mixed.mapped(0), 1);
        Forge unneeded = mappedBy(unneeded(ofGates(9)), NANDS);
        due("gates that no output needs are none", unneeded.mapped(0), 0);
    }

    private static void anotherGraph() {
        Forge forge = mappedBy(".inputs a b c d\n.outputs y\n.names a b c d y\n1111 1\n.end",
                "cell and 1 1 0001\n.end");
        due("time", forge.mapped(2), 3);
        due("a sign", forge.mappedSign(8), 'a');
        forge.balance();
        due("map() of the balanced one", forge.map(), 3);
        due("time", forge.mapped(2), 2);
        written("it", mappedText(forge), ".inputs a b c d\n.outputs y\n.gate and c d n_5\n.gate and a b n_6\n"
                + ".gate and n_5 n_6 n_7\n.names n_7 y\n1 1\n.end\n");
        forge.cover(3);
        due("map() behind a cover", forge.map(), 3);
        isInstance(forge, 2, 14, 0, 2, 10, 12);
    }

    /** Of 200 gates and eight inputs the instances give what the graph gives, each at its time. */
    private static void greatestGraph() {
        Forge forge = mappedBy(unlikeGates(), "cell nand 3 2 1110\ncell inv 1 1 10\ncell and3 7 3 00000001\n.end");
        int count = forge.mapped(0);
        int[] tables = {forge.libraryCell(0, 3), forge.libraryCell(1, 3), forge.libraryCell(2, 3)};
        int[][] instances = new int[count][6];
        int area = 0;
        for (int i = 0; i < count; i++) {
            int cell = forge.instance(i, 1);
            area += forge.libraryCell(cell, 0);
            for (int what = 0; what < 3 + forge.libraryCell(cell, 2); what++) {
                instances[i][what] = forge.instance(i, what);
            }
        }
        due("areas together", forge.mapped(1), area);
        int[] times = new int[2 * 209];
        int[] outputs = new int[5];
        for (int k = 0; k < 5; k++) {
            outputs[k] = forge.output(k);
        }
        for (int in = 0; in < 256; in++) {
            int[] values = valuesOf(instances, tables, in, times);
            int want = 0;
            for (int k = 0; k < 5; k++) {
                want |= values[outputs[k]] << k;
            }
            due("value(" + in + ") and the instances", forge.value(in), want);
        }
        int greatest = 0;
        for (int output : outputs) {
            greatest = Math.max(greatest, times[output]);
        }
        due("the greatest time", forge.mapped(2), greatest);
    }

    /** An instance's pins may have literals that come behind it, so all are gone through until nothing is left. */
    private static int[] valuesOf(int[][] instances, int[] tables, int in, int[] times) {
        int[] values = new int[times.length];
        Arrays.fill(values, NONE);
        for (int k = 0; k < 8; k++) {
            values[2 * (k + 1)] = in >> k & 1;
        }
        int[] pins = {2, 1, 3};
        int[] delays = {2, 1, 3};
        for (int left = instances.length; left > 0; left--) {
            for (int[] instance : instances) {
                int bit = 0;
                int latest = 0;
                for (int k = 0; k < pins[instance[1]] && bit >= 0; k++) {
                    int value = values[instance[3 + k]];
                    bit = value == NONE ? NONE : bit | value << k;
                    latest = Math.max(latest, times[instance[3 + k]]);
                }
                if (bit >= 0 && values[instance[0]] == NONE) {
                    values[instance[0]] = tables[instance[1]] >> bit & 1;
                    times[instance[0]] = latest + delays[instance[1]];
                    due("time of literal " + instance[0], instance[2], times[instance[0]]);
                }
            }
        }
        return values;
    }

    private static void notMade() {
        Forge forge = kit(done(XOR), "cell nand 2 2 1110\n.end");
        due("map()", forge.map(), NONE);
        thrown("mapped(0)", STATE, () -> forge.mapped(0));
        thrown("instance(0, 0)", STATE, () -> forge.instance(0, 0));
        thrown("mappedSign(0)", STATE, () -> forge.mappedSign(0));
        due("map() again", forge.map(), NONE);
        Forge one = done(".inputs a b\n.outputs y z\n.names a b y\n11 0\n.names a b z\n11 1\n.end");
        due("one of two outputs", kit(one, "cell nand 2 2 1110\n.end").map(), NONE);
        Forge deep = done(AND3);
        due("one at a pin", kit(deep, "cell nand 2 2 1110\n.end").map(), NONE);
        Forge unneeded = done(".inputs a b c\n.outputs y\n.names t u y\n-1 1\n.names a c u\n11 1\n.names a b t\n"
                + "10 1\n.end");
        due("one that no output needs is no hindrance", kit(unneeded, "cell and 2 2 0001\n.end").map(), 1);
    }

    private static void dropped() {
        String[] calls = {"read", "balance", "reduce", "rewrite", "library"};
        for (String call : calls) {
            Forge forge = mappedBy(XOR, NANDS);
            if (call.equals("read")) {
                anew(forge, XOR);
            }
            due("mapped(0) before " + call + "()", forge.mapped(0), 5);
            forge.call(call, 0, 0);
            thrown("mapped(0) behind " + call + "()", STATE, () -> forge.mapped(0));
            thrown("instance(0, 0) behind " + call + "()", STATE, () -> forge.instance(0, 0));
            thrown("mappedSign(0) behind " + call + "()", STATE, () -> forge.mappedSign(0));
            due("map() behind " + call + "()", forge.map(), 5);
        }
    }

    private static void notDropped() {
        Forge forge = mappedBy(XOR, NANDS);
        forge.cover(2);
        forge.coverFew(3);
        due("covers leave it", forge.mapped(0), 5);
        anew(forge, "x");
        due("read() of a fault", forge.read(), 1);
        due("leaves it", forge.mapped(0), 5);
        due("library() of a fault", forge.library(), 1);
        due("leaves it", forge.mapped(0), 5);
        Forge great = done(ofCutsOfFour(301));
        kit(great, NANDS);
        due("map()", great.map() > 0 ? 1 : 0, 1);
        Forge before = great.copy();
        thrown("rewrite() that is too great", TOO_GREAT, () -> great.rewrite());
        same("leaves it", allOf(great), allOf(before));
        due("mapped(0)", great.mapped(0) > 0 ? 1 : 0, 1);
        Forge read = mappedBy(XOR, NANDS);
        anew(read, ofGates(201));
        thrown("read() that is too great", TOO_GREAT, () -> read.read());
        due("leaves it", read.mapped(0), 5);
    }

    private static void missing() {
        Forge neither = new Forge();
        thrown("neither", STATE, () -> neither.map());
        Forge netlist = done(XOR);
        thrown("no library", STATE, () -> netlist.map());
        Forge library = isLibrary(NANDS);
        thrown("no netlist", STATE, () -> library.map());
        Forge faulty = done(XOR);
        anew(faulty, "cell a 1 1 10");
        due("library() of a fault", faulty.library(), 1);
        thrown("still no library", STATE, () -> faulty.map());
        Forge great = done(ofCutsOfThree(301));
        thrown("no library, too great", STATE, () -> great.map());
    }

    private static void tooGreat() {
        Forge most = kit(done(ofCutsOfThree(300)), NANDS);
        due("300 cuts", most.map() > 0 ? 1 : 0, 1);
        Forge great = kit(done(ofCutsOfThree(301)), NANDS);
        great.cover(2);
        Forge before = great.copy();
        thrown("301 cuts", TOO_GREAT, () -> great.map());
        same("behind map() that throws", allOf(great), allOf(before));
        thrown("nothing is mapped", STATE, () -> great.mapped(0));
        due("300 cuts of a gate that no output needs", kit(done(unneeded(ofCutsOfThree(300))), NANDS).map(), 0);
        Forge unneeded = kit(done(unneeded(ofCutsOfThree(301))), NANDS);
        thrown("301 cuts of a gate that no output needs", TOO_GREAT, () -> unneeded.map());
        due("301 cuts of four nodes", kit(done(ofCutsOfFour(301)), NANDS).map() > 0 ? 1 : 0, 1);
    }

    // ---- promises 23 and 24

    private static void asking() {
        says("0 how many instances, 1 their areas together", LibraryEdgesTest::areasTogether);
        says("2 the greatest time of an output's literal (0 of 0 and 1)", LibraryEdgesTest::greatestTime);
        says("IllegalStateException if nothing is; IllegalArgumentException for another what.",
                LibraryEdgesTest::otherOfMapped);
        says("IndexOutOfBoundsException if there is no such instance or pin", LibraryEdgesTest::noSuchInstance);
        says("IllegalArgumentException if what is below 0. (instance)", LibraryEdgesTest::whatBelowZero);
    }

    private static void areasTogether() {
        Forge forge = mappedBy(XOR, NANDS);
        due("instances", forge.mapped(0), 5);
        due("areas", forge.mapped(1), 8);
        due("areas of 0", mappedBy(XOR, "cell xor 0 1 0110\n.end").mapped(1), 0);
        due("no instances", mappedBy(WIRES, NANDS).mapped(0), 0);
    }

    private static void greatestTime() {
        due("of one output", mappedBy(XOR, NANDS).mapped(2), 5);
        due("of the first of two", mappedBy(".inputs a b c\n.outputs y z\n.names a b c y\n111 1\n.names a b z\n"
                + "11 1\n.end",
                "cell and 1 3 0001\n.end").mapped(2), 6);
        due("of the last of two", mappedBy(".inputs a b c\n.outputs z y\n.names a b c y\n111 1\n.names a b z\n"
                + "11 1\n.end",
                "cell and 1 3 0001\n.end").mapped(2), 6);
        due("beside 0, 1 and an input", mappedBy(".inputs a b\n.outputs a zero y one\n.names zero\n.names one\n1\n"
                + ".names a b y\n11 1\n.end", "cell and 1 3 0001\n.end").mapped(2), 3);
        due("of 0 and 1 alone", mappedBy(".inputs a\n.outputs y z\n.names y\n.names z\n1\n.end", NANDS).mapped(2), 0);
    }

    private static void otherOfMapped() {
        Forge none = kit(done(XOR), NANDS);
        Forge forge = mappedBy(XOR, NANDS);
        int[] bad = {-1, 3, 4, LEAST, GREATEST};
        for (int what : bad) {
            thrown("mapped(" + what + ") of nothing", STATE, () -> none.mapped(what));
            thrown("mapped(" + what + ")", ARGUMENT, () -> forge.mapped(what));
        }
        thrown("mapped(0) of nothing", STATE, () -> none.mapped(0));
        due("mapped(2)", forge.mapped(2), 5);
    }

    private static void noSuchInstance() {
        Forge forge = mappedBy(XOR, NANDS);
        int[] bad = {-1, 5, 6, 400, LEAST, GREATEST};
        for (int i : bad) {
            for (int what = -1; what <= 4; what++) {
                int asked = what;
                thrown("instance(" + i + ", " + what + ")", PLACE, () -> forge.instance(i, asked));
            }
        }
        due("the last one", forge.instance(4, 0), 11);
        due("pin 0 of one", forge.instance(0, 3), 2);
        due("pin 1 of two", forge.instance(4, 4), 9);
        int[] behind = {5, 6, 7, 100, GREATEST};
        for (int what : behind) {
            thrown("instance(4, " + what + ")", PLACE, () -> forge.instance(4, what));
            thrown("instance(0, " + what + ")", PLACE, () -> forge.instance(0, what));
        }
        thrown("pin 1 of one", PLACE, () -> forge.instance(0, 4));
        Forge three = mappedBy(AND3, "cell and 1 1 00000001\n.end");
        due("pin 2 of three", three.instance(0, 5), 6);
        thrown("pin 3 of three", PLACE, () -> three.instance(0, 6));
        Forge wires = mappedBy(WIRES, NANDS);
        thrown("instance(0, 0) of none", PLACE, () -> wires.instance(0, 0));
    }

    private static void whatBelowZero() {
        Forge forge = mappedBy(XOR, NANDS);
        int[] bad = {-1, -3, LEAST};
        for (int what : bad) {
            thrown("instance(0, " + what + ")", ARGUMENT, () -> forge.instance(0, what));
            thrown("instance(4, " + what + ")", ARGUMENT, () -> forge.instance(4, what));
        }
        due("instance(0, 0)", forge.instance(0, 0), 3);
    }

    // ---- promise 25

    private static void texts() {
        says("Sign k of what is mapped as a text; NONE behind its end.", LibraryEdgesTest::signs);
        says("IndexOutOfBoundsException if k is below 0. (mappedSign)", LibraryEdgesTest::signBelowZero);
        says("(of 0 and 1 as in 3)", LibraryEdgesTest::fixedOutputs);
        says("of a gate's (not the opposite) n_ and its number, of an opposite m_ and the node's number",
                LibraryEdgesTest::literalNames);
    }

    private static void signs() {
        String want = ".inputs a b\n.outputs y\n.gate inv a m_1\n.gate inv b m_2\n.gate nand a m_2 m_3\n"
                + ".gate nand m_1 b m_4\n.gate nand m_3 m_4 m_5\n.names m_5 y\n1 1\n.end\n";
        Forge forge = mappedBy(XOR, NANDS);
        written("the mapping", mappedText(forge), want);
        due("mappedSign(0)", forge.mappedSign(0), '.');
        due("the last one", forge.mappedSign(want.length() - 1), 10);
        due("behind it", forge.mappedSign(want.length()), NONE);
        due("far behind it", forge.mappedSign(GREATEST), NONE);
        kit(forge, "cell abcdefgh 1 1 0110\n.end");
        forge.map();
        written("another in its place", mappedText(forge),
                ".inputs a b\n.outputs y\n.gate abcdefgh a b m_5\n.names m_5 y\n1 1\n.end\n");
    }

    private static void signBelowZero() {
        Forge forge = kit(done(XOR), NANDS);
        thrown("nothing is mapped", STATE, () -> forge.mappedSign(-1));
        forge.map();
        thrown("mappedSign(-1)", PLACE, () -> forge.mappedSign(-1));
        thrown("mappedSign(MIN_VALUE)", PLACE, () -> forge.mappedSign(LEAST));
        due("mappedSign(0)", forge.mappedSign(0), '.');
    }

    private static void fixedOutputs() {
        written("wires", mappedText(mappedBy(WIRES, NANDS)),
                ".inputs a b\n.outputs a zero one\n.names a a\n1 1\n.names zero\n.names one\n1\n.end\n");
    }

    private static void literalNames() {
        Forge forge = mappedBy(".inputs a b\n.outputs y z n\n.names a b y\n11 1\n.names a b z\n11 0\n.names b n\n"
                + "0 1\n.end",
                "cell and 1 1 0001\ncell inv 1 1 10\n.end");
        written("all kinds of names", mappedText(forge), ".inputs a b\n.outputs y z n\n.gate inv b m_2\n"
                + ".gate and a b n_3\n"
                + ".gate inv n_3 m_3\n.names n_3 y\n1 1\n.names m_3 z\n1 1\n.names m_2 n\n1 1\n.end\n");
        Forge clash = mappedBy(".inputs m_2 n_3\n.outputs y\n.names m_2 n_3 y\n10 1\n.end",
                "cell and 1 1 0001\ncell inv 1 1 10\n.end");
        written("names that the text has, too", mappedText(clash), ".inputs m_2 n_3\n.outputs y\n.gate inv n_3 m_2\n"
                + ".gate and m_2 m_2 n_3\n.names n_3 y\n1 1\n.end\n");
    }
}
