import java.util.ArrayList;
import java.util.Arrays;
import java.util.HashMap;
import java.util.HashSet;
import java.util.List;
import java.util.Map;
import java.util.Set;
import java.util.TreeSet;

/**
 * The document's words once more, as plainly as can be and without regard to speed: what FuzzTest holds the class
 * against. It shares no code with it.
 */
final class Oracle {
    private static final int NONE = -1;

    private final StringBuilder text = new StringBuilder();
    private int faultLine = NONE;
    private Net net;
    private Net scanned;
    private Dag dag;
    private List<Cell> cover;
    private int coverDepth;
    private List<LibCell> library = new ArrayList<>();
    private List<Instance> mapping;
    private int mappedTime;

    // ---- the parts

    private static final class Table {
        int line;
        List<String> inputs = new ArrayList<>();
        String gives;
        List<String> rows = new ArrayList<>();
        char ending = '1';
    }

    private static final class Net {
        List<String> inputs = new ArrayList<>();
        List<String> outputs = new ArrayList<>();
        int outputLine;
        List<Table> tables = new ArrayList<>();

        Table giving(String name) {
            for (Table table : tables) {
                if (table.gives.equals(name)) {
                    return table;
                }
            }
            return null;
        }

        boolean gives(String name) {
            return inputs.contains(name) || giving(name) != null;
        }
    }

    private static final class Dag {
        final int inputs;
        final List<int[]> gates = new ArrayList<>();
        final List<Integer> outputs = new ArrayList<>();

        Dag(int inputs) {
            this.inputs = inputs;
        }

        int size() {
            return 1 + inputs + gates.size();
        }

        boolean isGate(int node) {
            return node > inputs && node < size();
        }

        int[] two(int node) {
            return gates.get(node - inputs - 1);
        }

        int and(int a, int b) {
            int x = Math.min(a, b);
            int y = Math.max(a, b);
            if (x == 0 || x == y) {
                return x;
            }
            if (x == 1) {
                return y;
            }
            if (x / 2 == y / 2) {
                return 0;
            }
            for (int node = inputs + 1; node < size(); node++) {
                if (two(node)[0] == x && two(node)[1] == y) {
                    return 2 * node;
                }
            }
            if (gates.size() == 200) {
                throw new UnsupportedOperationException();
            }
            gates.add(new int[] {x, y});
            return 2 * (size() - 1);
        }

        int or(int a, int b) {
            return and(a ^ 1, b ^ 1) ^ 1;
        }

        int level(int node) {
            int[] levels = new int[size()];
            for (int n = inputs + 1; n <= node; n++) {
                levels[n] = 1 + Math.max(levels[two(n)[0] / 2], levels[two(n)[1] / 2]);
            }
            return levels[node];
        }

        boolean[] nodeValues(int in) {
            boolean[] values = new boolean[size()];
            for (int k = 0; k < inputs; k++) {
                values[k + 1] = (in >> k & 1) == 1;
            }
            for (int n = inputs + 1; n < size(); n++) {
                values[n] = of(values, two(n)[0]) && of(values, two(n)[1]);
            }
            return values;
        }

        String function(int literal) {
            StringBuilder bits = new StringBuilder();
            for (int in = 0; in < 1 << inputs; in++) {
                bits.append(of(nodeValues(in), literal) ? '1' : '0');
            }
            return bits.toString();
        }

        Set<Integer> needed() {
            Set<Integer> needed = new TreeSet<>();
            for (int literal : outputs) {
                need(literal / 2, needed);
            }
            return needed;
        }

        private void need(int node, Set<Integer> needed) {
            if (isGate(node) && needed.add(node)) {
                need(two(node)[0] / 2, needed);
                need(two(node)[1] / 2, needed);
            }
        }

        int uses(int node, Set<Integer> needed) {
            int uses = 0;
            for (int gate : needed) {
                uses += (two(gate)[0] / 2 == node ? 1 : 0) + (two(gate)[1] / 2 == node ? 1 : 0);
            }
            for (int literal : outputs) {
                uses += literal / 2 == node ? 1 : 0;
            }
            return uses;
        }
    }

    private static final class Cell {
        int gate;
        List<Integer> inputs;
        int table;
        int depth;
    }

    private static final class LibCell {
        String name;
        int area;
        int delay;
        int pins;
        String table;
    }

    private static final class Instance {
        int literal;
        int cell;
        int time;
        int area;
        List<Integer> at = new ArrayList<>();

        boolean goesBefore(Instance other) {
            if (other == null) {
                return true;
            }
            int[] own = {time, area, cell};
            int[] its = {other.time, other.area, other.cell};
            int compared = Arrays.compare(own, its);
            for (int k = 0; compared == 0 && k < at.size(); k++) {
                compared = at.get(k) - other.at.get(k);
            }
            return compared < 0;
        }
    }

    private static boolean of(boolean[] values, int literal) {
        return values[literal / 2] != (literal % 2 == 1);
    }

    private static void need(boolean holds, RuntimeException otherwise) {
        if (!holds) {
            throw otherwise;
        }
    }

    private static RuntimeException state() {
        return new IllegalStateException();
    }

    private static RuntimeException place() {
        return new IndexOutOfBoundsException();
    }

    private static RuntimeException argument() {
        return new IllegalArgumentException();
    }

    // ---- the text

    int put(int signs) {
        StringBuilder more = new StringBuilder();
        for (int k = 0; k < 4; k++) {
            int sign = signs >> 8 * k & 255;
            if (sign == 0) {
                continue;
            }
            need(sign == 10 || sign >= 32 && sign <= 126, argument());
            more.append((char) sign);
        }
        need(text.length() + more.length() <= 1600, new UnsupportedOperationException());
        text.append(more);
        return text.length();
    }

    int end(int n) {
        need(n >= 0 && n <= text.length(), argument());
        text.setLength(n);
        return 0;
    }

    private List<String[]> lines() {
        List<String[]> lines = new ArrayList<>();
        for (String line : text.toString().split("\n", -1)) {
            String kept = line.replaceAll("#.*", "").trim();
            lines.add(kept.isEmpty() ? new String[0] : kept.split(" +"));
        }
        return lines;
    }

    private static boolean areNames(String[] words, int most) {
        if (words.length < 2 || words.length > most + 1) {
            return false;
        }
        for (int k = 1; k < words.length; k++) {
            if (!words[k].matches("[a-zA-Z0-9_]{1,8}")) {
                return false;
            }
        }
        return true;
    }

    private static boolean isTwice(List<String> names) {
        return new HashSet<>(names).size() < names.size();
    }

    int read() {
        int[] fault = scan();
        if (fault[0] == 0) {
            Dag built = build(scanned);
            net = scanned;
            dag = built;
            cover = null;
            mapping = null;
        }
        faultLine = fault[1];
        return fault[0];
    }

    private int[] scan() {
        scanned = new Net();
        List<String[]> lines = lines();
        int stage = 0;
        for (int at = 0; at < lines.size(); at++) {
            String[] words = lines.get(at);
            if (words.length == 0) {
                continue;
            }
            int kind = stage == 0 ? inputsLine(words) : stage == 1 ? outputsLine(words, at)
                    : stage == 2 ? bodyLine(words, at) : 1;
            if (kind != 0) {
                return new int[] {kind, at};
            }
            stage += stage < 2 || words[0].equals(".end") ? 1 : 0;
        }
        if (stage != 3) {
            return new int[] {1, lines.size()};
        }
        for (String name : scanned.outputs) {
            if (!scanned.gives(name)) {
                return new int[] {3, scanned.outputLine};
            }
        }
        for (Table table : scanned.tables) {
            for (String name : table.inputs) {
                if (!scanned.gives(name)) {
                    return new int[] {3, table.line};
                }
            }
        }
        for (Table table : scanned.tables) {
            Set<Table> reached = new HashSet<>();
            reach(table, reached);
            if (reached.contains(table)) {
                return new int[] {4, table.line};
            }
        }
        return new int[] {0, NONE};
    }

    private void reach(Table from, Set<Table> reached) {
        for (String name : from.inputs) {
            Table table = scanned.giving(name);
            if (table != null && reached.add(table)) {
                reach(table, reached);
            }
        }
    }

    private int inputsLine(String[] words) {
        if (!words[0].equals(".inputs") || !areNames(words, 8)) {
            return 1;
        }
        scanned.inputs.addAll(Arrays.asList(words).subList(1, words.length));
        return isTwice(scanned.inputs) ? 2 : 0;
    }

    private int outputsLine(String[] words, int at) {
        if (!words[0].equals(".outputs") || !areNames(words, 6)) {
            return 1;
        }
        scanned.outputs.addAll(Arrays.asList(words).subList(1, words.length));
        scanned.outputLine = at;
        return isTwice(scanned.outputs) ? 2 : 0;
    }

    private int bodyLine(String[] words, int at) {
        if (words[0].equals(".end")) {
            return words.length == 1 ? 0 : 1;
        }
        if (words[0].equals(".names")) {
            if (!areNames(words, 6) || scanned.tables.size() == 30) {
                return 1;
            }
            Table table = new Table();
            table.line = at;
            table.inputs.addAll(Arrays.asList(words).subList(1, words.length - 1));
            table.gives = words[words.length - 1];
            if (scanned.gives(table.gives)) {
                return 2;
            }
            scanned.tables.add(table);
            return 0;
        }
        if (scanned.tables.isEmpty()) {
            return 1;
        }
        Table table = scanned.tables.get(scanned.tables.size() - 1);
        int width = table.inputs.size();
        String ask = width == 0 ? "" : words[0];
        boolean isRow = words.length == (width == 0 ? 1 : 2) && ask.matches("[01-]{" + width + "}")
                && words[words.length - 1].matches("[01]") && table.rows.size() < 16;
        if (!isRow || !table.rows.isEmpty() && table.ending != words[words.length - 1].charAt(0)) {
            return 1;
        }
        table.ending = words[words.length - 1].charAt(0);
        table.rows.add(ask);
        return 0;
    }

    private static Dag build(Net net) {
        Dag built = new Dag(net.inputs.size());
        Map<String, Integer> literals = new HashMap<>();
        for (String name : net.outputs) {
            built.outputs.add(literal(net, name, built, literals));
        }
        return built;
    }

    private static int literal(Net net, String name, Dag built, Map<String, Integer> literals) {
        if (net.inputs.contains(name)) {
            return 2 * (1 + net.inputs.indexOf(name));
        }
        if (literals.containsKey(name)) {
            return literals.get(name);
        }
        Table table = net.giving(name);
        List<Integer> ins = new ArrayList<>();
        for (String input : table.inputs) {
            ins.add(literal(net, input, built, literals));
        }
        int whole = 0;
        for (int r = 0; r < table.rows.size(); r++) {
            int product = 1;
            for (int k = 0; k < ins.size(); k++) {
                char ask = table.rows.get(r).charAt(k);
                if (ask != '-') {
                    product = built.and(product, ask == '1' ? ins.get(k) : ins.get(k) ^ 1);
                }
            }
            whole = r == 0 ? product : built.or(whole, product);
        }
        whole = table.ending == '0' ? whole ^ 1 : whole;
        literals.put(name, whole);
        return whole;
    }

    int line() {
        return faultLine;
    }

    // ---- the graph

    int graph(int what) {
        need(dag != null, state());
        need(what >= 0 && what <= 3, argument());
        int greatest = 0;
        for (int literal : dag.outputs) {
            greatest = Math.max(greatest, dag.level(literal / 2));
        }
        return new int[] {dag.inputs, dag.outputs.size(), dag.gates.size(), greatest}[what];
    }

    int gate(int node, int what) {
        need(dag != null, state());
        need(dag.isGate(node), place());
        need(what >= 0 && what <= 2, argument());
        return what < 2 ? dag.two(node)[what] : dag.level(node);
    }

    int output(int k) {
        need(dag != null, state());
        need(k >= 0 && k < dag.outputs.size(), place());
        return dag.outputs.get(k);
    }

    int value(int inputs) {
        need(dag != null, state());
        need(inputs >= 0 && inputs < 1 << dag.inputs, argument());
        boolean[] values = dag.nodeValues(inputs);
        int answer = 0;
        for (int k = 0; k < dag.outputs.size(); k++) {
            answer += of(values, dag.outputs.get(k)) ? 1 << k : 0;
        }
        return answer;
    }

    /** What the tables themselves give, without any graph: a check that no remaking may break. */
    int valueOfTables(int inputs) {
        Map<String, Boolean> known = new HashMap<>();
        int answer = 0;
        for (int k = 0; k < net.outputs.size(); k++) {
            answer += given(net.outputs.get(k), inputs, known) ? 1 << k : 0;
        }
        return answer;
    }

    private boolean given(String name, int inputs, Map<String, Boolean> known) {
        if (net.inputs.contains(name)) {
            return (inputs >> net.inputs.indexOf(name) & 1) == 1;
        }
        if (!known.containsKey(name)) {
            known.put(name, givenByTable(name, inputs, known));
        }
        return known.get(name);
    }

    private boolean givenByTable(String name, int inputs, Map<String, Boolean> known) {
        Table table = net.giving(name);
        StringBuilder at = new StringBuilder();
        for (String input : table.inputs) {
            at.append(given(input, inputs, known) ? '1' : '0');
        }
        for (String row : table.rows) {
            if (at.toString().matches(row.replace('-', '.'))) {
                return table.ending == '1';
            }
        }
        return table.ending == '0' && !table.rows.isEmpty();
    }

    private int take(Dag made) {
        dag = made;
        cover = null;
        mapping = null;
        return dag.gates.size();
    }

    private static int fresh(Map<Integer, Integer> literals, int literal) {
        return literals.get(literal / 2) ^ literal % 2;
    }

    private Map<Integer, Integer> firstFresh() {
        Map<Integer, Integer> fresh = new HashMap<>();
        for (int node = 0; node <= dag.inputs; node++) {
            fresh.put(node, 2 * node);
        }
        return fresh;
    }

    private int finish(Dag made, Map<Integer, Integer> fresh) {
        for (int literal : dag.outputs) {
            made.outputs.add(fresh(fresh, literal));
        }
        return take(made);
    }

    int balance() {
        need(dag != null, state());
        Set<Integer> needed = dag.needed();
        Set<Integer> apart = new HashSet<>();
        for (int gate : needed) {
            for (int literal : dag.two(gate)) {
                if (isTakenApart(literal, needed)) {
                    apart.add(literal / 2);
                }
            }
        }
        Dag made = new Dag(dag.inputs);
        Map<Integer, Integer> fresh = firstFresh();
        for (int gate : needed) {
            if (apart.contains(gate)) {
                continue;
            }
            List<Integer> row = new ArrayList<>();
            leaves(gate, needed, fresh, row);
            while (row.size() > 1) {
                int x = takeLeast(row, made);
                int y = takeLeast(row, made);
                row.add(made.and(x, y));
            }
            fresh.put(gate, row.get(0));
        }
        return finish(made, fresh);
    }

    private boolean isTakenApart(int literal, Set<Integer> needed) {
        return literal % 2 == 0 && dag.isGate(literal / 2) && dag.uses(literal / 2, needed) == 1;
    }

    private void leaves(int gate, Set<Integer> needed, Map<Integer, Integer> fresh, List<Integer> row) {
        for (int literal : dag.two(gate)) {
            if (isTakenApart(literal, needed)) {
                leaves(literal / 2, needed, fresh, row);
            } else {
                row.add(fresh(fresh, literal));
            }
        }
    }

    private static int takeLeast(List<Integer> row, Dag made) {
        int best = 0;
        for (int k = 0; k < row.size(); k++) {
            if (made.level(row.get(k) / 2) < made.level(row.get(best) / 2)) {
                best = k;
            }
        }
        return row.remove(best);
    }

    int reduce() {
        need(dag != null, state());
        Dag made = new Dag(dag.inputs);
        Map<Integer, Integer> fresh = firstFresh();
        Map<String, Integer> placed = new HashMap<>();
        for (int node = 0; node <= dag.inputs; node++) {
            placed.putIfAbsent(dag.function(2 * node), node);
        }
        for (int gate : dag.needed()) {
            Integer same = placed.get(dag.function(2 * gate));
            Integer opposite = placed.get(dag.function(2 * gate + 1));
            if (same != null && (opposite == null || same < opposite)) {
                fresh.put(gate, fresh.get(same));
            } else if (opposite != null) {
                fresh.put(gate, fresh.get(opposite) ^ 1);
            } else {
                fresh.put(gate, made.and(fresh(fresh, dag.two(gate)[0]), fresh(fresh, dag.two(gate)[1])));
            }
            placed.putIfAbsent(dag.function(2 * gate), gate);
        }
        return finish(made, fresh);
    }

    // ---- cuts

    /** All cuts of each node where they are few, spare ones too; else those that aren't spare. */
    private Map<Integer, List<TreeSet<Integer>>> allCuts(int most) {
        boolean keepSpare = dag.gates.size() <= 12;
        Map<Integer, List<TreeSet<Integer>>> cuts = new HashMap<>();
        for (int node = dag.inputs + 1; node < dag.size(); node++) {
            Set<TreeSet<Integer>> found = new HashSet<>();
            for (TreeSet<Integer> x : orAlone(cuts, dag.two(node)[0] / 2)) {
                for (TreeSet<Integer> y : orAlone(cuts, dag.two(node)[1] / 2)) {
                    if (together(x, y) <= most) {
                        TreeSet<Integer> both = new TreeSet<>(x);
                        both.addAll(y);
                        found.add(both);
                    }
                }
            }
            cuts.put(node, keepSpare ? new ArrayList<>(found) : withoutSpare(new ArrayList<>(found)));
            need(keepSpare || cuts.get(node).size() <= 300, new UnsupportedOperationException());
        }
        if (keepSpare) {
            cuts.replaceAll((node, found) -> withoutSpare(found));
        }
        for (List<TreeSet<Integer>> found : cuts.values()) {
            need(found.size() <= 300, new UnsupportedOperationException());
        }
        return cuts;
    }

    private static int together(TreeSet<Integer> x, TreeSet<Integer> y) {
        int count = x.size();
        for (int node : y) {
            count += x.contains(node) ? 0 : 1;
        }
        return count;
    }

    private static List<TreeSet<Integer>> orAlone(Map<Integer, List<TreeSet<Integer>>> cuts, int node) {
        List<TreeSet<Integer>> all = new ArrayList<>();
        all.add(new TreeSet<>(Set.of(node)));
        if (cuts.containsKey(node)) {
            all.addAll(cuts.get(node));
        }
        return all;
    }

    private static List<TreeSet<Integer>> withoutSpare(List<TreeSet<Integer>> found) {
        List<TreeSet<Integer>> bySize = new ArrayList<>(found);
        bySize.sort((x, y) -> x.size() - y.size());
        List<TreeSet<Integer>> kept = new ArrayList<>();
        for (TreeSet<Integer> cut : bySize) {
            boolean isSpare = false;
            for (int k = 0; k < kept.size() && !isSpare; k++) {
                isSpare = cut.containsAll(kept.get(k));
            }
            if (!isSpare) {
                kept.add(cut);
            }
        }
        return kept;
    }

    private int[] depths(Map<Integer, List<TreeSet<Integer>>> cuts) {
        int[] depths = new int[dag.size()];
        for (int node = dag.inputs + 1; node < dag.size(); node++) {
            depths[node] = Integer.MAX_VALUE;
            for (TreeSet<Integer> cut : cuts.get(node)) {
                depths[node] = Math.min(depths[node], depth(cut, depths));
            }
        }
        return depths;
    }

    private static int depth(Set<Integer> cut, int[] depths) {
        int greatest = 0;
        for (int node : cut) {
            greatest = Math.max(greatest, depths[node]);
        }
        return greatest + 1;
    }

    private static boolean comesFirst(TreeSet<Integer> cut, TreeSet<Integer> other) {
        if (other == null || cut.size() != other.size()) {
            return other == null || cut.size() < other.size();
        }
        List<Integer> own = new ArrayList<>(cut);
        List<Integer> its = new ArrayList<>(other);
        for (int k = 0; k < own.size(); k++) {
            if (!own.get(k).equals(its.get(k))) {
                return own.get(k) < its.get(k);
            }
        }
        return false;
    }

    private static TreeSet<Integer> best(List<TreeSet<Integer>> cuts, int depth, int[] depths) {
        TreeSet<Integer> best = null;
        for (TreeSet<Integer> cut : cuts) {
            if (depth(cut, depths) == depth && comesFirst(cut, best)) {
                best = cut;
            }
        }
        return best;
    }

    private String table(int gate, TreeSet<Integer> cut) {
        StringBuilder table = new StringBuilder();
        List<Integer> ins = new ArrayList<>(cut);
        for (int i = 0; i < 1 << ins.size(); i++) {
            Map<Integer, Boolean> at = new HashMap<>();
            for (int k = 0; k < ins.size(); k++) {
                at.put(ins.get(k), (i >> k & 1) == 1);
            }
            table.append(through(2 * gate, at) ? '1' : '0');
        }
        return table.toString();
    }

    private boolean through(int literal, Map<Integer, Boolean> known) {
        int node = literal / 2;
        if (!known.containsKey(node)) {
            known.put(node, through(dag.two(node)[0], known) && through(dag.two(node)[1], known));
        }
        return known.get(node) != (literal % 2 == 1);
    }

    private static int number(String table) {
        int number = 0;
        for (int i = 0; i < table.length(); i++) {
            number |= (table.charAt(i) - '0') << i;
        }
        return number;
    }

    // ---- rewriting

    int rewrite() {
        need(dag != null, state());
        Map<Integer, List<TreeSet<Integer>>> cuts = allCuts(4);
        int[] depths = depths(cuts);
        Set<Integer> needed = dag.needed();
        Dag made = new Dag(dag.inputs);
        Map<Integer, Integer> fresh = firstFresh();
        for (int gate : needed) {
            TreeSet<Integer> cut = best(cuts.get(gate), depths[gate], depths);
            List<Integer> sum = sum(table(gate, cut), cut.size());
            if (cost(sum, cut.size()) < freed(gate, cut, needed)) {
                fresh.put(gate, sumLiteral(sum, new ArrayList<>(cut), fresh, made));
            } else {
                fresh.put(gate, made.and(fresh(fresh, dag.two(gate)[0]), fresh(fresh, dag.two(gate)[1])));
            }
        }
        return finish(made, fresh);
    }

    private int freed(int gate, TreeSet<Integer> cut, Set<Integer> needed) {
        Set<Integer> between = new TreeSet<>();
        comeTo(gate, cut, between);
        int freed = 0;
        for (int node : between) {
            boolean isFreed = true;
            for (int literal : dag.outputs) {
                isFreed &= literal / 2 != node;
            }
            for (int user : needed) {
                boolean uses = dag.two(user)[0] / 2 == node || dag.two(user)[1] / 2 == node;
                isFreed &= !uses || between.contains(user);
            }
            freed += node == gate || isFreed ? 1 : 0;
        }
        return freed;
    }

    private void comeTo(int node, TreeSet<Integer> cut, Set<Integer> between) {
        if (!cut.contains(node) && between.add(node)) {
            comeTo(dag.two(node)[0] / 2, cut, between);
            comeTo(dag.two(node)[1] / 2, cut, between);
        }
    }

    private static int part(int product, int place) {
        int left = product;
        for (int k = 0; k < place; k++) {
            left /= 3;
        }
        return left % 3;
    }

    private static boolean isOne(int product, int i, int size) {
        for (int place = 0; place < size; place++) {
            int part = part(product, place);
            if (part == 1 && (i >> place & 1) == 0 || part == 2 && (i >> place & 1) == 1) {
                return false;
            }
        }
        return true;
    }

    private static boolean isInside(int product, String table, int size) {
        for (int i = 0; i < table.length(); i++) {
            if (isOne(product, i, size) && table.charAt(i) == '0') {
                return false;
            }
        }
        return true;
    }

    private static int nodesOf(int product, int size) {
        int nodes = 0;
        for (int place = 0; place < size; place++) {
            nodes += part(product, place) == 0 ? 0 : 1;
        }
        return nodes;
    }

    private static List<Integer> primes(String table, int size) {
        List<Integer> primes = new ArrayList<>();
        int count = (int) Math.round(Math.pow(3, size));
        for (int product = 0; product < count; product++) {
            boolean isPrime = isInside(product, table, size);
            int power = 1;
            for (int place = 0; place < size; place++) {
                int part = part(product, place);
                isPrime &= part == 0 || !isInside(product - part * power, table, size);
                power *= 3;
            }
            if (isPrime) {
                primes.add(product);
            }
        }
        return primes;
    }

    private static List<Integer> sum(String table, int size) {
        List<Integer> sum = new ArrayList<>();
        List<Integer> primes = primes(table, size);
        for (int i = 0; i < table.length(); i++) {
            boolean isMet = table.charAt(i) == '0';
            for (int product : sum) {
                isMet |= isOne(product, i, size);
            }
            if (isMet) {
                continue;
            }
            int best = NONE;
            for (int prime : primes) {
                if (isOne(prime, i, size) && (best == NONE || nodesOf(prime, size) < nodesOf(best, size))) {
                    best = prime;
                }
            }
            sum.add(best);
        }
        return sum;
    }

    private static int cost(List<Integer> sum, int size) {
        int cost = sum.isEmpty() ? 0 : sum.size() - 1;
        for (int product : sum) {
            cost += Math.max(0, nodesOf(product, size) - 1);
        }
        return cost;
    }

    private static int sumLiteral(List<Integer> sum, List<Integer> cut, Map<Integer, Integer> fresh, Dag made) {
        int whole = 0;
        for (int k = 0; k < sum.size(); k++) {
            int product = 1;
            for (int place = 0; place < cut.size(); place++) {
                int part = part(sum.get(k), place);
                if (part != 0) {
                    product = made.and(product, fresh.get(cut.get(place)) ^ (part == 2 ? 1 : 0));
                }
            }
            whole = k == 0 ? product : made.or(whole, product);
        }
        return whole;
    }

    // ---- diagrams

    int diagram(int k, int what) {
        need(dag != null, state());
        need(k >= 0 && k < dag.outputs.size(), place());
        need(what >= 0 && what <= 3, argument());
        String function = dag.function(dag.outputs.get(k));
        if (what == 0) {
            Set<String> questions = new HashSet<>();
            question(function, 0, questions);
            return questions.size();
        }
        if (what == 1) {
            return function.replace("0", "").length();
        }
        return what == 2 ? function.indexOf('1') : asked(function, 0);
    }

    /** Of a function of the inputs from the first one on: the one of each two signs is what is left of it. */
    private static String half(String function, int bit) {
        StringBuilder half = new StringBuilder();
        for (int i = bit; i < function.length(); i += 2) {
            half.append(function.charAt(i));
        }
        return half.toString();
    }

    private static void question(String function, int input, Set<String> questions) {
        if (function.length() == 1) {
            return;
        }
        String zero = half(function, 0);
        String one = half(function, 1);
        if (!zero.equals(one)) {
            questions.add(input + ":" + function);
        }
        question(zero, input + 1, questions);
        question(one, input + 1, questions);
    }

    private static int asked(String function, int input) {
        if (function.length() == 1) {
            return NONE;
        }
        return half(function, 0).equals(half(function, 1)) ? asked(half(function, 0), input + 1) : input;
    }

    int differ(int k, int l) {
        need(dag != null, state());
        need(k >= 0 && k < dag.outputs.size() && l >= 0 && l < dag.outputs.size(), place());
        for (int in = 0; in < 1 << dag.inputs; in++) {
            int value = value(in);
            if ((value >> k & 1) != (value >> l & 1)) {
                return in;
            }
        }
        return NONE;
    }

    // ---- covers

    int cover(int most) {
        return cover(most, false);
    }

    int coverFew(int most) {
        return cover(most, true);
    }

    private int cover(int most, boolean few) {
        need(dag != null, state());
        need(most >= 2 && most <= 5, argument());
        Map<Integer, List<TreeSet<Integer>>> cuts = allCuts(most);
        int[] depths = depths(cuts);
        coverDepth = 0;
        for (int literal : dag.outputs) {
            coverDepth = Math.max(coverDepth, depths[literal / 2]);
        }
        Map<Integer, Integer> times = new HashMap<>();
        for (int literal : dag.outputs) {
            if (dag.isGate(literal / 2)) {
                times.put(literal / 2, coverDepth);
            }
        }
        List<Cell> cells = new ArrayList<>();
        for (int gate = dag.size() - 1; gate > dag.inputs; gate--) {
            if (!times.containsKey(gate)) {
                continue;
            }
            TreeSet<Integer> cut = few ? fewest(cuts.get(gate), times.get(gate), times, depths)
                    : best(cuts.get(gate), depths[gate], depths);
            for (int node : cut) {
                if (dag.isGate(node)) {
                    times.merge(node, times.get(gate) - 1, Math::min);
                }
            }
            Cell cell = new Cell();
            cell.gate = gate;
            cell.inputs = new ArrayList<>(cut);
            cell.table = number(table(gate, cut));
            cell.depth = depths[gate];
            cells.add(0, cell);
        }
        cover = cells;
        return cells.size();
    }

    private TreeSet<Integer> fewest(List<TreeSet<Integer>> cuts, int time, Map<Integer, Integer> times, int[] depths) {
        TreeSet<Integer> best = null;
        int fewest = Integer.MAX_VALUE;
        for (TreeSet<Integer> cut : cuts) {
            int unwanted = 0;
            for (int node : cut) {
                unwanted += dag.isGate(node) && !times.containsKey(node) ? 1 : 0;
            }
            if (depth(cut, depths) <= time && (unwanted < fewest || unwanted == fewest && comesFirst(cut, best))) {
                best = cut;
                fewest = unwanted;
            }
        }
        return best;
    }

    int depth() {
        need(cover != null, state());
        return coverDepth;
    }

    int cell(int c, int what) {
        need(cover != null, state());
        need(c >= 0 && c < cover.size(), place());
        Cell cell = cover.get(c);
        need(what < 4 || what - 4 < cell.inputs.size(), place());
        need(what >= 0, argument());
        return what >= 4 ? cell.inputs.get(what - 4)
                : new int[] {cell.gate, cell.inputs.size(), cell.table, cell.depth}[what];
    }

    private String node(int node) {
        return node <= dag.inputs ? net.inputs.get(node - 1) : "n_" + node;
    }

    private String head() {
        return ".inputs " + String.join(" ", net.inputs) + "\n.outputs " + String.join(" ", net.outputs) + "\n";
    }

    String coverText() {
        StringBuilder out = new StringBuilder(head());
        for (Cell cell : cover) {
            out.append(".names");
            for (int input : cell.inputs) {
                out.append(' ').append(node(input));
            }
            out.append(' ').append(node(cell.gate)).append('\n');
            for (int i = 0; i < 1 << cell.inputs.size(); i++) {
                if ((cell.table >> i & 1) == 1) {
                    for (int k = 0; k < cell.inputs.size(); k++) {
                        out.append(i >> k & 1);
                    }
                    out.append(" 1\n");
                }
            }
        }
        for (int k = 0; k < dag.outputs.size(); k++) {
            int literal = dag.outputs.get(k);
            String name = net.outputs.get(k);
            if (literal < 2) {
                out.append(".names ").append(name).append('\n').append(literal == 1 ? "1\n" : "");
            } else {
                out.append(".names ").append(node(literal / 2)).append(' ').append(name).append('\n');
                out.append(literal % 2 == 0 ? "1 1\n" : "0 1\n");
            }
        }
        return out.append(".end\n").toString();
    }

    int sign(int k) {
        need(cover != null, state());
        need(k >= 0, place());
        String written = coverText();
        return k < written.length() ? written.charAt(k) : NONE;
    }

    // ---- libraries

    int library() {
        List<LibCell> found = new ArrayList<>();
        List<String[]> lines = lines();
        boolean isEnded = false;
        for (int at = 0; at < lines.size(); at++) {
            String[] words = lines.get(at);
            if (words.length == 0) {
                continue;
            }
            int kind = isEnded ? 1 : libraryLine(words, found);
            if (kind != 0) {
                faultLine = at;
                return kind;
            }
            isEnded = words[0].equals(".end");
        }
        if (!isEnded) {
            faultLine = lines.size();
            return 1;
        }
        faultLine = NONE;
        library = found;
        mapping = null;
        return 0;
    }

    private static int libraryLine(String[] words, List<LibCell> found) {
        if (words[0].equals(".end")) {
            return words.length == 1 && !found.isEmpty() ? 0 : 1;
        }
        boolean isCell = words[0].equals("cell") && words.length == 5 && found.size() < 12
                && words[1].matches("[a-zA-Z0-9_]{1,8}") && words[2].matches("[0-9]{1,3}")
                && words[3].matches("[0-9]{1,2}") && Integer.parseInt(words[3]) != 0
                && words[4].matches("([01]{2}|[01]{4}|[01]{8})");
        if (!isCell) {
            return 1;
        }
        for (LibCell cell : found) {
            if (cell.name.equals(words[1])) {
                return 2;
            }
        }
        LibCell cell = new LibCell();
        cell.name = words[1];
        cell.area = Integer.parseInt(words[2]);
        cell.delay = Integer.parseInt(words[3]);
        cell.table = words[4];
        cell.pins = words[4].length() == 2 ? 1 : words[4].length() == 4 ? 2 : 3;
        found.add(cell);
        return 0;
    }

    int libraryCell(int i, int what) {
        need(i >= 0 && i < library.size(), place());
        need(what >= 0 && what <= 3, argument());
        LibCell cell = library.get(i);
        return new int[] {cell.area, cell.delay, cell.pins, number(cell.table)}[what];
    }

    // ---- mapping

    int map() {
        need(dag != null && !library.isEmpty(), state());
        Map<Integer, List<TreeSet<Integer>>> cuts = allCuts(3);
        Map<Integer, Instance> plain = new HashMap<>();
        Map<Integer, Instance> made = new HashMap<>();
        for (int node = 1; node < dag.size(); node++) {
            for (int literal = 2 * node; dag.isGate(node) && literal <= 2 * node + 1; literal++) {
                for (TreeSet<Integer> cut : cuts.get(node)) {
                    matchAll(literal, cut, plain, made);
                }
            }
            for (int literal = 2 * node; literal <= 2 * node + 1; literal++) {
                Instance turn = turn(literal, plain);
                Instance own = plain.get(literal);
                boolean isTurned = turn != null && (own == null || own.time > turn.time
                        || own.time == turn.time && own.area > turn.area);
                if (isTurned || own != null) {
                    made.put(literal, isTurned ? turn : own);
                }
            }
        }
        return takeInstances(made);
    }

    private boolean isGiven(int literal) {
        return literal % 2 == 0 && literal > 0 && literal / 2 <= dag.inputs;
    }

    private int timeOf(int literal, Map<Integer, Instance> made) {
        return isGiven(literal) ? 0 : made.containsKey(literal) ? made.get(literal).time : NONE;
    }

    private void matchAll(int literal, TreeSet<Integer> cut, Map<Integer, Instance> plain, Map<Integer, Instance> made) {
        for (int c = 0; c < library.size(); c++) {
            if (library.get(c).pins == cut.size()) {
                fillPins(literal, c, new ArrayList<>(cut), new ArrayList<>(), plain, made);
            }
        }
    }

    private void fillPins(int literal, int c, List<Integer> cut, List<Integer> at, Map<Integer, Instance> plain,
            Map<Integer, Instance> made) {
        if (at.size() == cut.size()) {
            if (givesAlways(literal, c, cut, at)) {
                Instance match = matchOf(literal, c, at, made);
                if (match.goesBefore(plain.get(literal))) {
                    plain.put(literal, match);
                }
            }
            return;
        }
        for (int node : cut) {
            for (int pin = 2 * node; pin <= 2 * node + 1; pin++) {
                if (!at.contains(2 * node) && !at.contains(2 * node + 1) && timeOf(pin, made) != NONE) {
                    List<Integer> longer = new ArrayList<>(at);
                    longer.add(pin);
                    fillPins(literal, c, cut, longer, plain, made);
                }
            }
        }
    }

    private boolean givesAlways(int literal, int c, List<Integer> cut, List<Integer> at) {
        for (int i = 0; i < 1 << cut.size(); i++) {
            Map<Integer, Boolean> known = new HashMap<>();
            for (int k = 0; k < cut.size(); k++) {
                known.put(cut.get(k), (i >> k & 1) == 1);
            }
            int index = 0;
            for (int k = 0; k < at.size(); k++) {
                index += through(at.get(k), known) ? 1 << k : 0;
            }
            if (through(literal, known) != (library.get(c).table.charAt(index) == '1')) {
                return false;
            }
        }
        return true;
    }

    private Instance matchOf(int literal, int c, List<Integer> at, Map<Integer, Instance> made) {
        Instance match = new Instance();
        match.literal = literal;
        match.cell = c;
        match.area = library.get(c).area;
        match.at = at;
        for (int pin : at) {
            match.time = Math.max(match.time, timeOf(pin, made));
        }
        match.time += library.get(c).delay;
        return match;
    }

    private Instance turn(int literal, Map<Integer, Instance> plain) {
        Instance best = null;
        for (int c = 0; c < library.size(); c++) {
            boolean may = !isGiven(literal) && library.get(c).table.equals("10") && timeOf(literal ^ 1, plain) != NONE;
            if (may) {
                Instance match = matchOf(literal, c, List.of(literal ^ 1), plain);
                best = match.goesBefore(best) ? match : best;
            }
        }
        return best;
    }

    private int takeInstances(Map<Integer, Instance> made) {
        mapping = null;
        TreeSet<Integer> wanted = new TreeSet<>();
        int greatest = 0;
        for (int literal : dag.outputs) {
            if (!want(literal, made, wanted)) {
                return NONE;
            }
            greatest = Math.max(greatest, literal < 2 ? 0 : timeOf(literal, made));
        }
        mapping = new ArrayList<>();
        for (int literal : wanted) {
            mapping.add(made.get(literal));
        }
        mappedTime = greatest;
        return mapping.size();
    }

    private boolean want(int literal, Map<Integer, Instance> made, Set<Integer> wanted) {
        if (literal < 2 || isGiven(literal)) {
            return true;
        }
        if (!made.containsKey(literal)) {
            return false;
        }
        if (wanted.add(literal)) {
            for (int pin : made.get(literal).at) {
                if (!want(pin, made, wanted)) {
                    return false;
                }
            }
        }
        return true;
    }

    int mapped(int what) {
        need(mapping != null, state());
        need(what >= 0 && what <= 2, argument());
        int area = 0;
        for (Instance instance : mapping) {
            area += library.get(instance.cell).area;
        }
        return new int[] {mapping.size(), area, mappedTime}[what];
    }

    int instance(int i, int what) {
        need(mapping != null, state());
        need(i >= 0 && i < mapping.size(), place());
        Instance instance = mapping.get(i);
        need(what < 3 || what - 3 < instance.at.size(), place());
        need(what >= 0, argument());
        return what >= 3 ? instance.at.get(what - 3)
                : new int[] {instance.literal, instance.cell, instance.time}[what];
    }

    private String literalName(int literal) {
        return isGiven(literal) ? net.inputs.get(literal / 2 - 1) : (literal % 2 == 0 ? "n_" : "m_") + literal / 2;
    }

    String mappedText() {
        StringBuilder out = new StringBuilder(head());
        for (Instance instance : mapping) {
            out.append(".gate ").append(library.get(instance.cell).name);
            for (int pin : instance.at) {
                out.append(' ').append(literalName(pin));
            }
            out.append(' ').append(literalName(instance.literal)).append('\n');
        }
        for (int k = 0; k < dag.outputs.size(); k++) {
            int literal = dag.outputs.get(k);
            String name = net.outputs.get(k);
            if (literal < 2) {
                out.append(".names ").append(name).append('\n').append(literal == 1 ? "1\n" : "");
            } else {
                out.append(".names ").append(literalName(literal)).append(' ').append(name).append("\n1 1\n");
            }
        }
        return out.append(".end\n").toString();
    }

    int mappedSign(int k) {
        need(mapping != null, state());
        need(k >= 0, place());
        String written = mappedText();
        return k < written.length() ? written.charAt(k) : NONE;
    }

    boolean hasGraph() {
        return dag != null;
    }

    boolean hasCover() {
        return cover != null;
    }

    int cellCount() {
        return cover.size();
    }

    boolean isMapped() {
        return mapping != null;
    }
}
