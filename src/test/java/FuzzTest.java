import java.util.ArrayList;
import java.util.Collections;
import java.util.List;
import java.util.Random;

/** Runs of calls, made up from fixed seeds, on the class and on Oracle: all that can be asked must be the same. */
public final class FuzzTest {
    private static int wrong = 0;
    private static final int[] seen = new int[13];
    private static final String[] THROWN = {"IllegalStateException", "IllegalArgumentException",
        "IndexOutOfBoundsException", "UnsupportedOperationException"};

    private final long seed;
    private final Random random;
    private final Forge forge = new Forge(false);
    private final Oracle oracle = new Oracle();
    private final StringBuilder story = new StringBuilder();
    private int answer;

    private FuzzTest(long seed) {
        this.seed = seed;
        this.random = new Random(seed);
    }

    public static void main(String[] args) {
        int runs = args.length > 0 ? Integer.parseInt(args[0]) : 400;
        long first = args.length > 1 ? Long.parseLong(args[1]) : 1;
        for (long seed = first; seed < first + runs && wrong < 5; seed++) {
            new FuzzTest(seed).run();
        }
        needSeen();
        System.out.println(wrong == 0 ? runs + " runs as the document asks" : wrong + " answers are not as due");
        System.exit(wrong == 0 ? 0 : 1);
    }

    /** The runs would prove little if they never came to these places. */
    private static void needSeen() {
        String[] places = {"read 0", "read 1", "read 2", "read 3", "read 4", "read too great", "library 0",
            "library 1", "library 2", "map NONE", "map made", "rewrite", "cover too great"};
        for (int k = 0; k < places.length; k++) {
            if (seen[k] == 0) {
                wrong++;
                System.out.println("no run came to: " + places[k]);
            }
        }
    }

    private void run() {
        int size = (int) (seed % 5);
        lookAtAll(size);
        int steps = size >= 3 ? 5 : 9;
        for (int n = 0; n < steps && wrong < 5; n++) {
            if (n == 0 || random.nextInt(4) == 0) {
                if (putText(random.nextInt(5) == 0 ? mutate(netlist(size)) : netlist(size), size)) {
                    int kind = call("read", 0, 0);
                    seen[kind == Integer.MIN_VALUE ? 5 : kind]++;
                }
            }
            if (n == 1 || random.nextInt(4) == 0) {
                if (putText(random.nextInt(5) == 0 ? mutate(cells()) : cells(), size)) {
                    seen[6 + call("library", 0, 0)]++;
                }
            }
            call("line", 0, 0);
            step(size == 4 && n == 0);
            lookAtAll(size);
        }
    }

    private void step(boolean withMostCuts) {
        String[] steps = {"balance", "reduce", "rewrite", "cover", "coverFew", "map", "map", "library", "read"};
        String step = withMostCuts ? "cover" : steps[random.nextInt(steps.length)];
        int most = random.nextInt(12) == 0 ? random.nextInt(9) - 1 : Math.min(5, 2 + random.nextInt(5));
        most = withMostCuts ? 5 : most;
        int got = call(step, most, 0);
        if (step.equals("map") && got != Integer.MIN_VALUE) {
            seen[got == -1 ? 9 : 10]++;
        }
        seen[11] += step.equals("rewrite") && got != Integer.MIN_VALUE ? 1 : 0;
        boolean isRefused = step.startsWith("cover") && got == Integer.MIN_VALUE && oracle.hasGraph();
        seen[12] += isRefused && most >= 2 && most <= 5 ? 1 : 0;
    }

    private record Question(String name, int a, int b) {
    }

    /** Of a small object all questions, of a great one as many as a few objects can be asked. */
    private void lookAtAll(int size) {
        List<Question> questions = new ArrayList<>();
        addFew(questions);
        addGates(questions);
        addCells(questions);
        addTexts(questions);
        int most = size >= 3 ? 300 : 3000;
        if (questions.size() > most) {
            Collections.shuffle(questions, random);
            questions = questions.subList(0, most);
        }
        for (Question question : questions) {
            call(question.name, question.a, question.b);
        }
        for (int in = 0; oracle.hasGraph() && in < 1 << oracle.graph(0); in++) {
            due("value(" + in + ") and the tables", oracle.value(in), oracle.valueOfTables(in));
        }
    }

    private static void add(List<Question> questions, String name, int a, int b) {
        questions.add(new Question(name, a, b));
    }

    private void addFew(List<Question> questions) {
        add(questions, "line", 0, 0);
        add(questions, "put", 0, 0);
        add(questions, "depth", 0, 0);
        for (int what = -1; what <= 4; what++) {
            add(questions, "graph", what, 0);
            add(questions, "mapped", what, 0);
            add(questions, "libraryCell", random.nextInt(14) - 1, what);
            add(questions, "diagram", random.nextInt(8) - 1, what);
            add(questions, "gate", random.nextInt(14) - 1, what);
        }
        for (int k = -1; k <= 6; k++) {
            add(questions, "output", k, 0);
            add(questions, "differ", k, random.nextInt(8) - 1);
            for (int what = 0; what < 4; what++) {
                add(questions, "diagram", k, what);
            }
        }
        for (int in = -1; oracle.hasGraph() && in <= 1 << oracle.graph(0); in++) {
            add(questions, "value", in, 0);
        }
    }

    private void addGates(List<Question> questions) {
        if (!oracle.hasGraph()) {
            return;
        }
        int behind = 1 + oracle.graph(0) + oracle.graph(2);
        for (int node = oracle.graph(0); node <= behind; node++) {
            add(questions, "gate", node, 0);
            add(questions, "gate", node, 1);
            add(questions, "gate", node, 2);
        }
    }

    private void addCells(List<Question> questions) {
        int cells = oracle.hasCover() ? oracle.cellCount() : 0;
        for (int c = -1; c <= cells; c++) {
            for (int what = -1; what < 10; what++) {
                add(questions, "cell", c, what);
            }
        }
        int instances = oracle.isMapped() ? oracle.mapped(0) : 0;
        for (int i = -1; i <= instances; i++) {
            for (int what = -1; what < 7; what++) {
                add(questions, "instance", i, what);
            }
        }
    }

    private void addTexts(List<Question> questions) {
        int written = oracle.hasCover() ? oracle.coverText().length() : 0;
        for (int k = -1; k <= written; k++) {
            add(questions, "sign", k, 0);
        }
        int mapped = oracle.isMapped() ? oracle.mappedText().length() : 0;
        for (int k = -1; k <= mapped; k++) {
            add(questions, "mappedSign", k, 0);
        }
        add(questions, "sign", 100000000, 0);
        add(questions, "mappedSign", 100000000, 0);
    }

    // ---- texts

    /** False, and nothing is put, if the object couldn't take so many calls more. */
    private boolean putText(String text, int size) {
        if (!forge.hasRoomFor(text.length() / (size >= 3 ? 4 : 3) + 12)) {
            return false;
        }
        call("end", 0, 0);
        story.append("text <<").append(text).append(">>\n");
        int at = 0;
        while (at < text.length()) {
            int signs = 0;
            for (int k = 0; k < 4; k++) {
                if (at < text.length() && (size >= 3 || random.nextInt(20) != 0)) {
                    signs |= text.charAt(at) << 8 * k;
                    at++;
                }
            }
            call("put", signs, 0);
        }
        return true;
    }

    private String pick(List<String> from) {
        return from.get(random.nextInt(from.size()));
    }

    private String netlist(int size) {
        int inputs = size >= 3 ? 5 + random.nextInt(4) : 1 + random.nextInt(3 + size);
        int tables = size >= 3 ? 6 + random.nextInt(25) : random.nextInt(4 + 3 * size);
        List<String> names = new ArrayList<>();
        StringBuilder text = new StringBuilder(".inputs");
        for (int k = 0; k < inputs; k++) {
            names.add("abcdefgh".substring(k, k + 1));
            text.append(' ').append(names.get(k));
        }
        StringBuilder body = new StringBuilder();
        List<String> all = new ArrayList<>(names);
        List<String> given = new ArrayList<>();
        for (int t = 0; t < tables && body.length() < 1450; t++) {
            String name = "t" + t;
            given.add(name);
            if (size == 4) {
                addWoven(body, all, name);
            } else {
                addTable(body, all, name, size);
            }
            all.add(name);
        }
        text.append("\n.outputs");
        int outputs = 1 + random.nextInt(6);
        List<String> left = new ArrayList<>(all);
        for (int k = 0; k < outputs && !left.isEmpty(); k++) {
            boolean late = random.nextInt(4) != 0;
            text.append(' ').append(left.remove(late ? left.size() - 1 : random.nextInt(left.size())));
        }
        return text.append('\n').append(body).append(random.nextInt(30) == 0 ? "" : ".end").append("\n").toString();
    }

    private void addTable(StringBuilder body, List<String> all, String name, int size) {
        int width = size == 3 ? 3 + random.nextInt(3) : random.nextInt(12) == 0 ? 0 : 1 + random.nextInt(5);
        body.append(".names");
        for (int k = 0; k < width; k++) {
            boolean isBad = random.nextInt(size == 3 ? 2000 : 300) == 0;
            int late = Math.max(0, all.size() - 1 - random.nextInt(8));
            body.append(' ').append(isBad ? "t" + random.nextInt(9) : random.nextBoolean() ? all.get(late) : pick(all));
        }
        body.append(' ').append(random.nextInt(300) == 0 ? pick(all) : name).append('\n');
        int rows = size == 3 ? 1 + random.nextInt(seed % 2 == 0 ? 4 : 7)
                : random.nextInt(random.nextInt(6) == 0 ? 9 : 4);
        char ending = random.nextInt(3) == 0 ? '0' : '1';
        for (int r = 0; r < rows; r++) {
            for (int k = 0; k < width; k++) {
                body.append("011-".charAt(random.nextInt(4)));
            }
            body.append(width == 0 ? "" : " ").append(ending).append('\n');
        }
    }

    /** Tables that ask the latest names again and again: their gates have very many cuts. */
    private void addWoven(StringBuilder body, List<String> all, String name) {
        String[] rows = {"10 1\n01 1\n", "110 1\n1-1 1\n011 1\n", "11 1\n", "11- 1\n0-1 1\n", "10 0\n01 0\n"};
        String chosen = rows[random.nextInt(seed % 2 == 0 ? 2 : rows.length)];
        int width = chosen.indexOf(' ');
        body.append(".names");
        int reach = 3 + (int) (seed % 6);
        for (int k = 0; k < width; k++) {
            body.append(' ').append(all.get(Math.max(0, all.size() - 1 - random.nextInt(reach))));
        }
        body.append(' ').append(name).append('\n').append(chosen);
    }

    private String cells() {
        StringBuilder text = new StringBuilder();
        int count = 1 + random.nextInt(12);
        String[] common = {"10", "1110", "0001", "0111", "1000", "11111110", "00000001", "0110", "10101100"};
        int kinds = random.nextInt(3);
        for (int i = 0; i < count; i++) {
            StringBuilder table = new StringBuilder();
            int signs = 1 << 1 + random.nextInt(3);
            for (int k = 0; k < signs; k++) {
                table.append(random.nextInt(2));
            }
            String known = kinds == 0 ? common[i % common.length] : common[random.nextInt(common.length)];
            text.append("cell c").append(random.nextInt(40) == 0 ? 0 : i).append(' ').append(random.nextInt(4));
            text.append(' ').append(1 + random.nextInt(random.nextBoolean() ? 3 : 99)).append(' ');
            text.append(random.nextInt(4) == 0 ? table : known).append(random.nextInt(9) == 0 ? " # x\n\n" : "\n");
        }
        return text.append(".end").append(random.nextBoolean() ? "\n" : "").toString();
    }

    private String mutate(String text) {
        StringBuilder changed = new StringBuilder(text);
        String signs = "01- \n#abt_.X9";
        int changes = 1 + random.nextInt(3);
        for (int n = 0; n < changes && changed.length() > 1; n++) {
            int at = random.nextInt(changed.length());
            int how = random.nextInt(4);
            if (how == 0) {
                changed.deleteCharAt(at);
            } else if (how == 1) {
                changed.insert(at, signs.charAt(random.nextInt(signs.length())));
            } else if (how == 2) {
                changed.setCharAt(at, signs.charAt(random.nextInt(signs.length())));
            } else {
                int from = changed.lastIndexOf("\n", at) + 1;
                int to = changed.indexOf("\n", at) + 1;
                String line = to > from ? changed.substring(from, to) : "\n";
                changed.insert(changed.lastIndexOf("\n", random.nextInt(changed.length())) + 1, line);
            }
        }
        return changed.length() > 1600 ? changed.substring(0, 1600) : changed.toString();
    }

    // ---- calls

    /** The answer of both, or MIN_VALUE if both throw the same. */
    private int call(String name, int a, int b) {
        String told = name + "(" + a + ", " + b + ")";
        story.append(told).append(' ');
        String thrownByForge = thrown(true, name, a, b);
        int got = answer;
        String thrownByOracle = thrown(false, name, a, b);
        if (!thrownByForge.equals(thrownByOracle)) {
            tell(told + " throws '" + thrownByForge + "', due is '" + thrownByOracle + "'");
        } else if (thrownByForge.isEmpty()) {
            due(told, got, answer);
        }
        return thrownByOracle.isEmpty() ? answer : Integer.MIN_VALUE;
    }

    private void due(String told, int got, int want) {
        if (got != want) {
            tell(told + " answered " + got + ", due is " + want);
        }
    }

    private void tell(String what) {
        wrong++;
        if (wrong < 4) {
            System.out.println("seed " + seed + ": " + what);
            System.out.println(story.substring(Math.max(0, story.lastIndexOf("text <<"))));
        }
    }

    private String thrown(boolean byForge, String name, int a, int b) {
        try {
            answer = byForge ? forge.call(name, a, b) : Calls.of(oracle, name, a, b);
            return "";
        } catch (IllegalStateException | IllegalArgumentException | IndexOutOfBoundsException
                | UnsupportedOperationException e) {
            for (String known : THROWN) {
                if (e.getClass().getSimpleName().equals(known)) {
                    return known;
                }
            }
            throw e;
        }
    }
}
