import java.util.ArrayList;
import java.util.List;
import java.util.function.IntSupplier;

/** What the tests have in common: they tell each answer that is not as due, and end with exit code 1 then. */
class Checks {
    static final Class<?> STATE = IllegalStateException.class;
    static final Class<?> ARGUMENT = IllegalArgumentException.class;
    static final Class<?> PLACE = IndexOutOfBoundsException.class;
    static final Class<?> TOO_GREAT = UnsupportedOperationException.class;
    static final int NONE = CellForge.NONE;
    static final int LEAST = Integer.MIN_VALUE;
    static final int GREATEST = Integer.MAX_VALUE;

    static final String XOR = ".inputs a b\n.outputs y\n.names a b y\n10 1\n01 1\n.end\n";
    static final String NANDS = "cell inv 1 1 10\ncell nand 2 2 1110\n.end\n";

    private static int wrong = 0;
    private static int tested = 0;
    private static String about = "";

    /** A test of its own for what the document says in these words. */
    static void says(String words, Runnable test) {
        about = words;
        tested++;
        try {
            test.run();
        } catch (RuntimeException | AssertionError e) {
            tell("the test ended with " + e);
        }
    }

    static void endTests() {
        System.out.println(wrong == 0 ? tested + " sentences hold" : wrong + " answers are not as due");
        System.exit(wrong == 0 ? 0 : 1);
    }

    // ---- answers

    static void due(String what, int got, int want) {
        if (got != want) {
            tell(what + " answered " + got + ", due is " + want);
        }
    }

    static void thrown(String what, Class<?> want, IntSupplier call) {
        Object got = "nothing";
        try {
            call.getAsInt();
        } catch (RuntimeException e) {
            got = e.getClass();
        }
        if (got != want) {
            tell(what + " throws " + got + ", due is " + want);
        }
    }

    static void written(String what, String got, String want) {
        if (!got.equals(want)) {
            tell(what + " is written <<" + got + ">>, due is <<" + want + ">>");
        }
    }

    static void same(String what, List<String> got, List<String> want) {
        for (int k = 0; k < Math.max(got.size(), want.size()); k++) {
            String one = k < got.size() ? got.get(k) : "nothing";
            String other = k < want.size() ? want.get(k) : "nothing";
            if (!one.equals(other)) {
                tell(what + ": " + one + ", due is " + other);
                return;
            }
        }
    }

    private static void tell(String what) {
        wrong++;
        System.out.println("'" + about + "': " + what);
    }

    // ---- objects

    static Forge with(String text) {
        Forge forge = new Forge();
        feed(forge, text);
        return forge;
    }

    static Forge done(String text) {
        Forge forge = with(text);
        due("read() of <<" + text + ">>", forge.read(), 0);
        return forge;
    }

    static Forge anew(Forge forge, String text) {
        forge.end(0);
        feed(forge, text);
        return forge;
    }

    static Forge kit(Forge forge, String cells) {
        anew(forge, cells);
        due("library() of " + cells, forge.library(), 0);
        return forge;
    }

    static Forge mappedBy(String text, String cells) {
        Forge forge = kit(done(text), cells);
        due("map() with " + cells, forge.map() >= 0 ? 1 : 0, 1);
        return forge;
    }

    static void feed(Forge forge, String text) {
        for (int at = 0; at < text.length(); at += 4) {
            int signs = 0;
            for (int k = 0; k < 4 && at + k < text.length(); k++) {
                signs |= text.charAt(at + k) << 8 * k;
            }
            forge.put(signs);
        }
    }

    static int ended(Forge forge, int n) {
        forge.end(n);
        return forge.put(0);
    }

    // ---- faults

    static void fault(String text, int kind, int line) {
        Forge forge = with(text);
        due("read() of <<" + text + ">>", forge.read(), kind);
        due("line() of <<" + text + ">>", forge.line(), line);
        if (kind != 0) {
            thrown("graph(0) behind it", STATE, () -> forge.graph(0));
        }
    }

    static void taken(String text) {
        fault(text, 0, NONE);
    }

    static void noLibrary(String text, int kind, int line) {
        Forge forge = with(text);
        due("library() of <<" + text + ">>", forge.library(), kind);
        due("line() of <<" + text + ">>", forge.line(), line);
        thrown("libraryCell(0, 0) behind it", PLACE, () -> forge.libraryCell(0, 0));
    }

    static Forge isLibrary(String text) {
        Forge forge = with(text);
        due("library() of <<" + text + ">>", forge.library(), 0);
        due("line() of <<" + text + ">>", forge.line(), NONE);
        return forge;
    }

    // ---- graphs

    /** x and y of a gate. */
    static void isGate(Forge forge, int node, int x, int y) {
        due("x of gate " + node, forge.gate(node, 0), x);
        due("y of gate " + node, forge.gate(node, 1), y);
    }

    static void values(Forge forge, int... want) {
        for (int in = 0; in < want.length; in++) {
            due("value(" + in + ")", forge.value(in), want[in]);
        }
    }

    /** Gate, table, depth and inputs of a cell. */
    static void isCell(Forge forge, int c, int gate, int table, int depth, int... inputs) {
        due("gate of cell " + c, forge.cell(c, 0), gate);
        due("inputs of cell " + c, forge.cell(c, 1), inputs.length);
        due("table of cell " + c, forge.cell(c, 2), table);
        due("depth of cell " + c, forge.cell(c, 3), depth);
        for (int k = 0; k < inputs.length; k++) {
            due("input " + k + " of cell " + c, forge.cell(c, 4 + k), inputs[k]);
        }
        thrown("input " + inputs.length + " of cell " + c, PLACE, () -> forge.cell(c, 4 + inputs.length));
    }

    /** Literal, cell, time and literals at the pins of an instance. */
    static void isInstance(Forge forge, int i, int literal, int cell, int time, int... pins) {
        due("literal of instance " + i, forge.instance(i, 0), literal);
        due("cell of instance " + i, forge.instance(i, 1), cell);
        due("time of instance " + i, forge.instance(i, 2), time);
        for (int k = 0; k < pins.length; k++) {
            due("pin " + k + " of instance " + i, forge.instance(i, 3 + k), pins[k]);
        }
        thrown("pin " + pins.length + " of instance " + i, PLACE, () -> forge.instance(i, 3 + pins.length));
    }

    static String coverText(Forge forge) {
        return textOf(forge, "sign");
    }

    static String mappedText(Forge forge) {
        return textOf(forge, "mappedSign");
    }

    private static String textOf(Forge forge, String call) {
        StringBuilder text = new StringBuilder();
        int sign = forge.call(call, 0, 0);
        for (int k = 1; sign != NONE && k < MOST_SIGNS; k++) {
            text.append((char) sign);
            sign = forge.call(call, k, 0);
        }
        return text.toString();
    }

    // ---- texts of many gates and cuts

    /** A table that gives x or y or y or ..: each row behind the first one is a gate of the one ahead and not y. */
    private static String chainTable(String x, String y, String name, int gates) {
        return ".names " + x + " " + y + " " + name + "\n1- 1\n" + "-1 1\n".repeat(gates);
    }

    /**
     * Tables that give, as name, x or y or y or ..: so many gates one above the other, which all have y as one of
     * their two. A cut of the last one is y and one of the others, or y and x.
     */
    static String chain(String x, String y, String name, int gates) {
        StringBuilder tables = new StringBuilder();
        String from = x;
        int left = gates;
        for (int t = 0; left > 15; t++) {
            String to = name + t;
            tables.append(chainTable(from, y, to, 15));
            from = to;
            left -= 15;
        }
        return tables + chainTable(from, y, name, left);
    }

    static String ofGates(int gates) {
        return ".inputs b a\n.outputs y\n" + chain("b", "a", "y", gates) + ".end";
    }

    /**
     * y is a gate whose two are chains of their own inputs: for K 4 its cuts are all pairs of one chain's last gate,
     * or one of its cuts, and the other's likewise.
     */
    static String ofCutsOfFour(int cuts) {
        int[] parts = parts(cuts);
        return ".inputs a b c d\n.outputs y\n" + chain("a", "b", "p", parts[0] - 1)
                + chain("c", "d", "q", parts[1] - 1) + ".names p q y\n00 1\n.end";
    }

    /** As for K 4, but with e beside p or its cuts, or one gate for both: so p has one cut less. */
    static String ofCutsOfFive(int cuts) {
        int[] parts = parts(cuts);
        return ".inputs a b c d e\n.outputs y\n" + chain("a", "b", "p", parts[0] - 2)
                + chain("c", "d", "q", parts[1] - 1) + ".names p e q y\n010 1\n.end";
    }

    /** A chain p, and one above it with p in each gate: for K 3 a cut is one of these, and p or one of its cuts. */
    static String ofCutsOfThree(int cuts) {
        int[] parts = parts(cuts);
        return ".inputs a b c\n.outputs y\n" + chain("a", "b", "p", parts[1] - 1) + chain("c", "p", "y", parts[0])
                + ".end";
    }

    private static int[] parts(int cuts) {
        return cuts == 300 ? new int[] {15, 20} : new int[] {7, 43};
    }

    /** 200 gates of eight inputs, no two of them alike, and all of them needed. */
    static String unlikeGates() {
        StringBuilder text = new StringBuilder(".inputs a b c d e f g h\n.outputs t0 t1 t2 t3 t4\n");
        int bits = 31;
        for (int t = 0; t < 5; t++) {
            text.append(".names");
            for (int k = 0; k < 5; k++) {
                text.append(' ').append("abcdefgh".charAt((2 * t + k) % 8));
            }
            text.append(" t").append(t).append('\n');
            for (int r = 0; r < (t == 4 ? 8 : 16); r++) {
                bits = bits * 33 + 31 & 0xFFFF;
                for (int k = 4; k < 9; k++) {
                    text.append(bits >> k & 1);
                }
                text.append(" 1\n");
            }
        }
        return text.append(".end").toString();
    }

    /** Tables of two inputs are their unlikeness, of three what most of them are. */
    static String woven(String inputs, String outputs, String tables) {
        StringBuilder text = new StringBuilder(".inputs " + inputs + "\n.outputs " + outputs + "\n");
        for (String table : tables.split(";")) {
            boolean isOfTwo = table.split(" ").length == 3;
            text.append(".names ").append(table).append('\n');
            text.append(isOfTwo ? "10 1\n01 1\n" : "110 1\n1-1 1\n011 1\n");
        }
        return text.append(".end").toString();
    }

    /** The same text with an output for which all that was output before is built, but not needed. */
    static String unneeded(String text) {
        return text.replace(".outputs y\n", ".outputs z\n.names y a z\n-1 1\n");
    }

    // ---- all that can be asked

    // A class that never tells an end is wrong, but the test of it has to end.
    private static final int MOST_ASKED = 600;
    private static final int MOST_SIGNS = 20000;
    private static final String[] CHANGES = {"read", "balance", "reduce", "rewrite", "library", "map"};

    /** All answers that the object gives. */
    static List<String> answersOf(Forge forge) {
        List<String> told = new ArrayList<>();
        ask(told, forge, "line", 0, 0);
        addRest(told, forge, "");
        return told;
    }

    /** All answers that the object gives, and those that it gives behind each call that changes it. */
    static List<String> allOf(Forge forge) {
        List<String> told = answersOf(forge);
        for (String change : CHANGES) {
            Forge copy = forge.copy();
            ask(told, copy, change, 0, 0);
            if (change.equals("read") || change.equals("library")) {
                ask(told, copy, "line", 0, 0);
            }
            addRest(told, copy, "behind " + change + "() ");
        }
        return told;
    }

    /** The same without line(). */
    static List<String> allButLine(Forge forge) {
        List<String> told = allOf(forge);
        told.remove(0);
        return told;
    }

    private static void addRest(List<String> told, Forge forge, String when) {
        int from = told.size();
        Forge copy = forge.copy();
        ask(told, copy, "put", 0, 0);
        askAll(told, copy, "graph", 4);
        askAll(told, copy, "mapped", 3);
        askAll(told, copy, "output", GREATEST);
        askAll(told, copy, "value", GREATEST);
        ask(told, copy, "depth", 0, 0);
        askTable(told, copy, "gate", firstGate(copy), 3);
        askTable(told, copy, "diagram", 0, 4);
        askTable(told, copy, "differ", 0, GREATEST);
        askTable(told, copy, "cell", 0, GREATEST);
        askTable(told, copy, "libraryCell", 0, 4);
        askTable(told, copy, "instance", 0, GREATEST);
        askText(told, copy, "sign");
        askText(told, copy, "mappedSign");
        for (int k = from; k < told.size(); k++) {
            told.set(k, when + told.get(k));
        }
    }

    private static int firstGate(Forge forge) {
        try {
            return 1 + forge.graph(0);
        } catch (IllegalStateException e) {
            return 0;
        }
    }

    /** True if it was answered. */
    private static boolean ask(List<String> told, Forge forge, String name, int a, int b) {
        String asked = name + "(" + a + ", " + b + ")";
        try {
            told.add(asked + " answers " + forge.call(name, a, b));
            return true;
        } catch (RuntimeException e) {
            told.add(asked + " throws " + e.getClass().getSimpleName());
            return false;
        }
    }

    private static void askAll(List<String> told, Forge forge, String name, int behind) {
        boolean isThere = true;
        for (int a = 0; a < behind && isThere && a < MOST_ASKED; a++) {
            isThere = ask(told, forge, name, a, 0);
        }
    }

    private static void askTable(List<String> told, Forge forge, String name, int first, int behind) {
        boolean isThere = true;
        for (int a = first; isThere && a < MOST_ASKED; a++) {
            isThere = ask(told, forge, name, a, 0);
            boolean hasMore = isThere;
            for (int b = 1; b < behind && hasMore && b < MOST_ASKED; b++) {
                hasMore = ask(told, forge, name, a, b);
            }
        }
    }

    private static void askText(List<String> told, Forge forge, String name) {
        if (ask(told, forge, name, 0, 0)) {
            told.add(name + " gives <<" + textOf(forge, name) + ">>");
        }
    }
}
