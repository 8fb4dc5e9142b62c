import java.util.ArrayList;
import java.util.List;
import java.util.Random;

/** Runs of calls, made up from fixed seeds, on the class and on Oracle: all that can be asked must be the same. */
public final class FuzzTest {
    private static int wrong = 0;
    private static final int[] seen = new int[13];
    private static final String[] THROWN = {"IllegalStateException", "IllegalArgumentException",
        "IndexOutOfBoundsException", "UnsupportedOperationException"};

    private final long seed;
    private final Random random;
    private final CellForge forge = new CellForge();
    private final Oracle oracle = new Oracle();
    private final StringBuilder story = new StringBuilder();
    private int answer;

    private FuzzTest(long seed) {
        this.seed = seed;
        this.random = new Random(seed);
    }

    public static void main(String[] args) {
        int runs = args.length > 0 ? Integer.parseInt(args[0]) : 400;
        long first = args.length > 1 ? Long.parseLong(args[1]) : 1;
        for (long seed = first; seed < first + runs && wrong < 5; seed++) {
            new FuzzTest(seed).run();
        }
        needSeen();
        System.out.println(wrong == 0 ? runs + " runs as the document asks" : wrong + " answers are not as due");
        System.exit(wrong == 0 ? 0 : 1);
    }

    /** The runs would prove little if they never came to these places. */
    private static void needSeen() {
        String[] places = {"read 0", "read 1", "read 2", "read 3", "read 4", "read too great", "library 0",
            "library 1", "library 2", "map NONE", "map made", "rewrite", "cover too great"};
        for (int k = 0; k < places.length; k++) {
            if (seen[k] == 0) {
                wrong++;
                System.out.println("no run came to: " + places[k]);
            }
        }
    }

    private void run() {
        int size = (int) (seed % 5);
        lookAtAll();
        int steps = size >= 3 ? 5 : 9;
        for (int n = 0; n < steps && wrong < 5; n++) {
            if (n == 0 || random.nextInt(4) == 0) {
                putText(random.nextInt(5) == 0 ? mutate(netlist(size)) : netlist(size));
                int kind = call("read", 0, 0);
                seen[kind == Integer.MIN_VALUE ? 5 : kind]++;
                call("line", 0, 0);
            }
            if (n == 1 || random.nextInt(4) == 0) {
                putText(random.nextInt(5) == 0 ? mutate(cells()) : cells());
                seen[6 + call("library", 0, 0)]++;
                call("line", 0, 0);
            }
            step();
            lookAtAll();
        }
    }

    private void step() {
        String[] steps = {"balance", "reduce", "rewrite", "cover", "coverFew", "map", "map", "library", "read"};
        String step = steps[random.nextInt(steps.length)];
        int most = random.nextInt(12) == 0 ? random.nextInt(9) - 1 : Math.min(5, 2 + random.nextInt(5));
        int got = call(step, most, 0);
        if (step.equals("map") && got != Integer.MIN_VALUE) {
            seen[got == -1 ? 9 : 10]++;
        }
        seen[11] += step.equals("rewrite") && got != Integer.MIN_VALUE ? 1 : 0;
        seen[12] += step.startsWith("cover") && oracle.hasGraph() && got == Integer.MIN_VALUE && most >= 2 && most <= 5 ? 1 : 0;
    }

    private void lookAtAll() {
        call("line", 0, 0);
        for (int what = -1; what <= 4; what++) {
            call("graph", what, 0);
            call("mapped", what, 0);
            call("libraryCell", random.nextInt(14) - 1, what);
            call("diagram", random.nextInt(8) - 1, what);
            call("gate", random.nextInt(14) - 1, what);
        }
        for (int k = -1; k <= 6; k++) {
            call("output", k, 0);
            call("differ", k, random.nextInt(8) - 1);
            for (int what = 0; what < 4; what++) {
                call("diagram", k, what);
            }
        }
        call("value", random.nextInt(600) - 20, 0);
        call("value", random.nextInt(16), 0);
        call("depth", 0, 0);
        lookAtGates();
        lookAtTables();
        lookAtCells();
        lookAtTexts();
    }

    private void lookAtGates() {
        if (!oracle.hasGraph()) {
            return;
        }
        int behind = 1 + oracle.graph(0) + oracle.graph(2);
        for (int node = oracle.graph(0); node <= behind; node++) {
            call("gate", node, 0);
            call("gate", node, 1);
            call("gate", node, 2);
        }
    }

    private void lookAtTables() {
        if (!oracle.hasGraph()) {
            return;
        }
        for (int in = 0; in < 1 << oracle.graph(0); in++) {
            due("value(" + in + ") and the tables", forge.value(in), oracle.valueOfTables(in));
        }
    }

    private void lookAtCells() {
        int cells = oracle.hasCover() ? 200 : 1;
        for (int c = -1; c <= cells; c++) {
            boolean isCell = call("cell", c, 0) != Integer.MIN_VALUE;
            for (int what = -1; what < 10; what++) {
                call("cell", c, what);
            }
            if (!isCell && c >= 0) {
                break;
            }
        }
        int instances = oracle.isMapped() ? 420 : 1;
        for (int i = -1; i <= instances; i++) {
            boolean isInstance = call("instance", i, 0) != Integer.MIN_VALUE;
            for (int what = -1; what < 8; what++) {
                call("instance", i, what);
            }
            if (!isInstance && i >= 0) {
                break;
            }
        }
    }

    private void lookAtTexts() {
        call("sign", -1, 0);
        call("mappedSign", -1, 0);
        call("sign", 100000000, 0);
        call("mappedSign", 100000000, 0);
        call("sign", 0, 0);
        call("mappedSign", 0, 0);
        String written = oracle.hasCover() ? oracle.coverText() : "";
        for (int k = 0; k <= written.length() && oracle.hasCover(); k++) {
            due("sign(" + k + ")", forge.sign(k), k < written.length() ? written.charAt(k) : -1);
        }
        String mapped = oracle.isMapped() ? oracle.mappedText() : "";
        for (int k = 0; k <= mapped.length() && oracle.isMapped(); k++) {
            due("mappedSign(" + k + ")", forge.mappedSign(k), k < mapped.length() ? mapped.charAt(k) : -1);
        }
    }

    // ---- texts

    private void putText(String text) {
        call("end", 0, 0);
        story.append("text <<").append(text).append(">>\n");
        int at = 0;
        while (at < text.length()) {
            int signs = 0;
            for (int k = 0; k < 4; k++) {
                if (at < text.length() && random.nextInt(20) != 0) {
                    signs |= text.charAt(at) << 8 * k;
                    at++;
                }
            }
            call("put", signs, 0);
        }
    }

    private String pick(List<String> from) {
        return from.get(random.nextInt(from.size()));
    }

    private String netlist(int size) {
        int inputs = size >= 3 ? 5 + random.nextInt(4) : 1 + random.nextInt(3 + size);
        int tables = size >= 3 ? 6 + random.nextInt(25) : random.nextInt(4 + 3 * size);
        List<String> names = new ArrayList<>();
        StringBuilder text = new StringBuilder(".inputs");
        for (int k = 0; k < inputs; k++) {
            names.add("abcdefgh".substring(k, k + 1));
            text.append(' ').append(names.get(k));
        }
        StringBuilder body = new StringBuilder();
        List<String> all = new ArrayList<>(names);
        List<String> given = new ArrayList<>();
        for (int t = 0; t < tables && body.length() < 1450; t++) {
            String name = "t" + t;
            given.add(name);
            if (size == 4) {
                addWoven(body, all, name);
            } else {
                addTable(body, all, name, size);
            }
            all.add(name);
        }
        text.append("\n.outputs");
        int outputs = 1 + random.nextInt(6);
        List<String> left = new ArrayList<>(all);
        for (int k = 0; k < outputs && !left.isEmpty(); k++) {
            boolean late = random.nextInt(4) != 0;
            text.append(' ').append(left.remove(late ? left.size() - 1 : random.nextInt(left.size())));
        }
        return text.append('\n').append(body).append(random.nextInt(30) == 0 ? "" : ".end").append("\n").toString();
    }

    private void addTable(StringBuilder body, List<String> all, String name, int size) {
        int width = size == 3 ? 3 + random.nextInt(3) : random.nextInt(12) == 0 ? 0 : 1 + random.nextInt(5);
        body.append(".names");
        for (int k = 0; k < width; k++) {
            boolean isBad = random.nextInt(size == 3 ? 2000 : 300) == 0;
            int late = Math.max(0, all.size() - 1 - random.nextInt(8));
            body.append(' ').append(isBad ? "t" + random.nextInt(9) : random.nextBoolean() ? all.get(late) : pick(all));
        }
        body.append(' ').append(random.nextInt(300) == 0 ? pick(all) : name).append('\n');
        int rows = size == 3 ? 1 + random.nextInt(seed % 2 == 0 ? 4 : 7) : random.nextInt(random.nextInt(6) == 0 ? 9 : 4);
        char ending = random.nextInt(3) == 0 ? '0' : '1';
        for (int r = 0; r < rows; r++) {
            for (int k = 0; k < width; k++) {
                body.append("011-".charAt(random.nextInt(4)));
            }
            body.append(width == 0 ? "" : " ").append(ending).append('\n');
        }
    }

    /** Tables that ask the latest names again and again: their gates have very many cuts. */
    private void addWoven(StringBuilder body, List<String> all, String name) {
        String[] rows = {"10 1\n01 1\n", "110 1\n1-1 1\n011 1\n", "11 1\n", "11- 1\n0-1 1\n", "10 0\n01 0\n"};
        String chosen = rows[random.nextInt(seed % 2 == 0 ? 2 : rows.length)];
        int width = chosen.indexOf(' ');
        body.append(".names");
        int reach = 3 + (int) (seed % 6);
        for (int k = 0; k < width; k++) {
            body.append(' ').append(all.get(Math.max(0, all.size() - 1 - random.nextInt(reach))));
        }
        body.append(' ').append(name).append('\n').append(chosen);
    }

    private String cells() {
        StringBuilder text = new StringBuilder();
        int count = 1 + random.nextInt(12);
        String[] common = {"10", "1110", "0001", "0111", "1000", "11111110", "00000001", "0110", "10101100"};
        int kinds = random.nextInt(3);
        for (int i = 0; i < count; i++) {
            StringBuilder table = new StringBuilder();
            int signs = 1 << 1 + random.nextInt(3);
            for (int k = 0; k < signs; k++) {
                table.append(random.nextInt(2));
            }
            String known = kinds == 0 ? common[i % common.length] : common[random.nextInt(common.length)];
            text.append("cell c").append(random.nextInt(40) == 0 ? 0 : i).append(' ').append(random.nextInt(4));
            text.append(' ').append(1 + random.nextInt(random.nextBoolean() ? 3 : 99)).append(' ');
            text.append(random.nextInt(4) == 0 ? table : known).append(random.nextInt(9) == 0 ? " # x\n\n" : "\n");
        }
        return text.append(".end").append(random.nextBoolean() ? "\n" : "").toString();
    }

    private String mutate(String text) {
        StringBuilder changed = new StringBuilder(text);
        String signs = "01- \n#abt_.X9";
        int changes = 1 + random.nextInt(3);
        for (int n = 0; n < changes && changed.length() > 1; n++) {
            int at = random.nextInt(changed.length());
            int how = random.nextInt(4);
            if (how == 0) {
                changed.deleteCharAt(at);
            } else if (how == 1) {
                changed.insert(at, signs.charAt(random.nextInt(signs.length())));
            } else if (how == 2) {
                changed.setCharAt(at, signs.charAt(random.nextInt(signs.length())));
            } else {
                int from = changed.lastIndexOf("\n", at) + 1;
                int to = changed.indexOf("\n", at) + 1;
                String line = to > from ? changed.substring(from, to) : "\n";
                changed.insert(changed.lastIndexOf("\n", random.nextInt(changed.length())) + 1, line);
            }
        }
        return changed.length() > 1600 ? changed.substring(0, 1600) : changed.toString();
    }

    // ---- calls

    /** The answer of both, or MIN_VALUE if both throw the same. */
    private int call(String name, int a, int b) {
        String told = name + "(" + a + ", " + b + ")";
        story.append(told).append(' ');
        String thrownByForge = thrown(true, name, a, b);
        int got = answer;
        String thrownByOracle = thrown(false, name, a, b);
        if (!thrownByForge.equals(thrownByOracle)) {
            tell(told + " throws '" + thrownByForge + "', due is '" + thrownByOracle + "'");
        } else if (thrownByForge.isEmpty()) {
            due(told, got, answer);
        }
        return thrownByOracle.isEmpty() ? answer : Integer.MIN_VALUE;
    }

    private void due(String told, int got, int want) {
        if (got != want) {
            tell(told + " answered " + got + ", due is " + want);
        }
    }

    private void tell(String what) {
        wrong++;
        if (wrong < 4) {
            System.out.println("seed " + seed + ": " + what);
            System.out.println(story.substring(Math.max(0, story.lastIndexOf("text <<"))));
        }
    }

    private String thrown(boolean byForge, String name, int a, int b) {
        try {
            answer = byForge ? ofForge(name, a, b) : ofOracle(name, a, b);
            return "";
        } catch (IllegalStateException | IllegalArgumentException | IndexOutOfBoundsException
                | UnsupportedOperationException e) {
            for (String known : THROWN) {
                if (e.getClass().getSimpleName().equals(known)) {
                    return known;
                }
            }
            throw e;
        }
    }

    private int ofForge(String name, int a, int b) {
        switch (name) {
            case "put": return forge.put(a);
            case "end": forge.end(a); return 0;
            case "read": return forge.read();
            case "line": return forge.line();
            case "graph": return forge.graph(a);
            case "gate": return forge.gate(a, b);
            case "output": return forge.output(a);
            case "value": return forge.value(a);
            case "balance": return forge.balance();
            case "reduce": return forge.reduce();
            case "rewrite": return forge.rewrite();
            case "diagram": return forge.diagram(a, b);
            case "differ": return forge.differ(a, b);
            case "coverFew": return forge.coverFew(a);
            case "cover": return forge.cover(a);
            case "depth": return forge.depth();
            case "cell": return forge.cell(a, b);
            case "sign": return forge.sign(a);
            case "library": return forge.library();
            case "libraryCell": return forge.libraryCell(a, b);
            case "map": return forge.map();
            case "mapped": return forge.mapped(a);
            case "instance": return forge.instance(a, b);
            default: return forge.mappedSign(a);
        }
    }

    private int ofOracle(String name, int a, int b) {
        switch (name) {
            case "put": return oracle.put(a);
            case "end": return oracle.end(a);
            case "read": return oracle.read();
            case "line": return oracle.line();
            case "graph": return oracle.graph(a);
            case "gate": return oracle.gate(a, b);
            case "output": return oracle.output(a);
            case "value": return oracle.value(a);
            case "balance": return oracle.balance();
            case "reduce": return oracle.reduce();
            case "rewrite": return oracle.rewrite();
            case "diagram": return oracle.diagram(a, b);
            case "differ": return oracle.differ(a, b);
            case "coverFew": return oracle.coverFew(a);
            case "cover": return oracle.cover(a);
            case "depth": return oracle.depth();
            case "cell": return oracle.cell(a, b);
            case "sign": return oracle.sign(a);
            case "library": return oracle.library();
            case "libraryCell": return oracle.libraryCell(a, b);
            case "map": return oracle.map();
            case "mapped": return oracle.mapped(a);
            case "instance": return oracle.instance(a, b);
            default: return oracle.mappedSign(a);
        }
    }
}
