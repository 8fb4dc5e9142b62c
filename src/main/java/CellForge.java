import java.util.Arrays;

/** Reads tables, builds a graph of AND gates of them, and covers or maps it by cells. */
public final class CellForge {
    public static final int NONE = -1;

    private static final int MOST_INPUTS = 8;
    private static final int MOST_OUTPUTS = 6;
    private static final int MOST_GATES = 200;
    private static final int MOST_NODES = 1 + MOST_INPUTS + MOST_GATES;
    private static final int MOST_LITERALS = 2 * MOST_NODES;

    private final Text text = new Text();
    private final Functions functions = new Functions();
    private final Cuts cuts = new Cuts();
    private final Cone cone = new Cone();
    private final Remaker remaker = new Remaker();
    private final Cover cells = new Cover();
    private final Mapping mapping = new Mapping();
    private final Script coverScript = new Script();
    private final Script mappedScript = new Script();
    // What a call makes is made in the spare one of two, so that a call that throws leaves all as it was.
    private Netlist netlist = new Netlist();
    private Netlist spareNetlist = new Netlist();
    private Graph nodes = new Graph();
    private Graph spareNodes = new Graph();
    private Library kit = new Library();
    private Library spareKit = new Library();
    private int faultLine = NONE;
    private boolean hasNetlist;
    private boolean hasCover;
    private boolean hasMapping;

    public CellForge() {
    }

    public int put(int signs) throws IllegalArgumentException, UnsupportedOperationException {
        int more = 0;
        for (int k = 0; k < 4; k++) {
            int sign = signs >>> 8 * k & 255;
            if (sign != 0 && !Text.isSign(sign)) {
                throw new IllegalArgumentException();
            }
            more += sign == 0 ? 0 : 1;
        }
        if (text.size + more > Text.MOST) {
            throw new UnsupportedOperationException();
        }
        for (int k = 0; k < 4; k++) {
            text.add(signs >>> 8 * k & 255);
        }
        return text.size;
    }

    public void end(int n) throws IllegalArgumentException {
        if (n < 0 || n > text.size) {
            throw new IllegalArgumentException();
        }
        text.size = n;
    }

    public int read() throws UnsupportedOperationException {
        int kind = spareNetlist.scan(text);
        int foundAt = spareNetlist.faultLine;
        if (kind == 0) {
            spareNetlist.buildInto(spareNodes);
            needRoom(!spareNodes.full);
            Netlist old = netlist;
            netlist = spareNetlist;
            spareNetlist = old;
            takeSpareNodes();
            hasNetlist = true;
        }
        faultLine = foundAt;
        return kind;
    }

    public int line() {
        return faultLine;
    }

    public int graph(int what) throws IllegalStateException, IllegalArgumentException {
        needState(hasNetlist);
        switch (what) {
            case 0:
                return nodes.inputs;
            case 1:
                return nodes.outputs;
            case 2:
                return nodes.gates;
            case 3:
                return nodes.greatestLevel();
            default:
                throw new IllegalArgumentException();
        }
    }

    public int gate(int node, int what)
            throws IllegalStateException, IndexOutOfBoundsException, IllegalArgumentException {
        needState(hasNetlist);
        needPlace(nodes.isGate(node));
        switch (what) {
            case 0:
                return nodes.low[node];
            case 1:
                return nodes.high[node];
            case 2:
                return nodes.level[node];
            default:
                throw new IllegalArgumentException();
        }
    }

    public int output(int k) throws IllegalStateException, IndexOutOfBoundsException {
        needState(hasNetlist);
        needPlace(k >= 0 && k < nodes.outputs);
        return nodes.results[k];
    }

    public int value(int inputs) throws IllegalStateException, IllegalArgumentException {
        needState(hasNetlist);
        if (inputs >>> nodes.inputs != 0) {
            throw new IllegalArgumentException();
        }
        functions.find(nodes);
        int answer = 0;
        for (int k = 0; k < nodes.outputs; k++) {
            answer |= functions.bit(nodes.results[k], inputs) << k;
        }
        return answer;
    }

    public int balance() throws IllegalStateException, UnsupportedOperationException {
        needState(hasNetlist);
        remaker.makeBalanced(nodes, spareNodes);
        needRoom(!spareNodes.full);
        takeSpareNodes();
        return nodes.gates;
    }

    public int reduce() throws IllegalStateException, UnsupportedOperationException {
        needState(hasNetlist);
        functions.find(nodes);
        remaker.makeReduced(nodes, spareNodes, functions);
        needRoom(!spareNodes.full);
        takeSpareNodes();
        return nodes.gates;
    }

    public int rewrite() throws IllegalStateException, UnsupportedOperationException {
        needState(hasNetlist);
        needRoom(cuts.find(nodes, 4));
        remaker.makeRewritten(nodes, spareNodes, cuts, cone);
        needRoom(!spareNodes.full);
        takeSpareNodes();
        return nodes.gates;
    }

    public int diagram(int k, int what)
            throws IllegalStateException, IndexOutOfBoundsException, IllegalArgumentException {
        needState(hasNetlist);
        needPlace(k >= 0 && k < nodes.outputs);
        functions.find(nodes);
        int literal = nodes.results[k];
        switch (what) {
            case 0:
                return functions.questions(literal, nodes.inputs);
            case 1:
                return functions.ones(literal, nodes.inputs);
            case 2:
                return functions.leastUnlike(literal, 0);
            case 3:
                return functions.firstAsked(literal, nodes.inputs);
            default:
                throw new IllegalArgumentException();
        }
    }

    public int differ(int k, int l) throws IllegalStateException, IndexOutOfBoundsException {
        needState(hasNetlist);
        needPlace(k >= 0 && k < nodes.outputs && l >= 0 && l < nodes.outputs);
        functions.find(nodes);
        return functions.leastUnlike(nodes.results[k], nodes.results[l]);
    }

    public int coverFew(int most)
            throws IllegalStateException, IllegalArgumentException, UnsupportedOperationException {
        return coverBy(most, true);
    }

    public int cover(int most) throws IllegalStateException, IllegalArgumentException, UnsupportedOperationException {
        return coverBy(most, false);
    }

    public int depth() throws IllegalStateException {
        needState(hasCover);
        return cells.greatest;
    }

    public int cell(int c, int what) throws IllegalStateException, IndexOutOfBoundsException, IllegalArgumentException {
        needState(hasCover);
        needPlace(c >= 0 && c < cells.size);
        if (what < 0) {
            throw new IllegalArgumentException();
        }
        long cut = cells.cutOf(c);
        switch (what) {
            case 0:
                return cells.gates[c];
            case 1:
                return Cuts.sizeOf(cut);
            case 2:
                return cells.tables[c];
            case 3:
                return cells.depths[c];
            default:
                needPlace(what - 4 < Cuts.sizeOf(cut));
                return Cuts.nodeAt(cut, what - 4);
        }
    }

    public int sign(int k) throws IllegalStateException, IndexOutOfBoundsException {
        needState(hasCover);
        needPlace(k >= 0);
        if (!coverScript.ready) {
            cells.writeTo(coverScript, netlist, nodes);
        }
        return coverScript.signAt(k);
    }

    public int library() {
        int kind = spareKit.scan(text);
        if (kind == 0) {
            Library old = kit;
            kit = spareKit;
            spareKit = old;
            hasMapping = false;
            faultLine = NONE;
        } else {
            faultLine = text.number;
        }
        return kind;
    }

    public int libraryCell(int i, int what) throws IndexOutOfBoundsException, IllegalArgumentException {
        needPlace(i >= 0 && i < kit.cells);
        switch (what) {
            case 0:
                return kit.areas[i];
            case 1:
                return kit.delays[i];
            case 2:
                return kit.pins[i];
            case 3:
                return kit.tables[i];
            default:
                throw new IllegalArgumentException();
        }
    }

    public int map() throws IllegalStateException, UnsupportedOperationException {
        // A library that was read has a cell at least.
        needState(hasNetlist && kit.cells > 0);
        needRoom(cuts.find(nodes, 3));
        mappedScript.ready = false;
        hasMapping = mapping.find(nodes, cuts, cone, kit);
        return hasMapping ? mapping.size : NONE;
    }

    public int mapped(int what) throws IllegalStateException, IllegalArgumentException {
        needState(hasMapping);
        switch (what) {
            case 0:
                return mapping.size;
            case 1:
                return mapping.area;
            case 2:
                return mapping.time;
            default:
                throw new IllegalArgumentException();
        }
    }

    public int instance(int i, int what)
            throws IllegalStateException, IndexOutOfBoundsException, IllegalArgumentException {
        needState(hasMapping);
        needPlace(i >= 0 && i < mapping.size);
        if (what < 0) {
            throw new IllegalArgumentException();
        }
        int literal = mapping.literals[i];
        long match = mapping.made[literal];
        switch (what) {
            case 0:
                return literal;
            case 1:
                return Mapping.cellOf(match);
            case 2:
                return Mapping.timeOf(match);
            default:
                needPlace(what - 3 < kit.pins[Mapping.cellOf(match)]);
                return Mapping.pinOf(match, what - 3);
        }
    }

    public int mappedSign(int k) throws IllegalStateException, IndexOutOfBoundsException {
        needState(hasMapping);
        needPlace(k >= 0);
        if (!mappedScript.ready) {
            mapping.writeTo(mappedScript, netlist, nodes, kit);
        }
        return mappedScript.signAt(k);
    }

    private int coverBy(int most, boolean few) {
        needState(hasNetlist);
        if (most < 2 || most > Cuts.MOST_SIZE) {
            throw new IllegalArgumentException();
        }
        needRoom(cuts.find(nodes, most));
        cells.choose(nodes, cuts, cone, few);
        coverScript.ready = false;
        hasCover = true;
        return cells.size;
    }

    private void takeSpareNodes() {
        Graph old = nodes;
        nodes = spareNodes;
        spareNodes = old;
        functions.known = false;
        cuts.most = 0;
        hasCover = false;
        hasMapping = false;
    }

    private static void needState(boolean holds) {
        if (!holds) {
            throw new IllegalStateException();
        }
    }

    private static void needPlace(boolean holds) {
        if (!holds) {
            throw new IndexOutOfBoundsException();
        }
    }

    private static void needRoom(boolean holds) {
        if (!holds) {
            throw new UnsupportedOperationException();
        }
    }

    /** The signs that were put, and a reader that goes through their lines word by word. */
    private static final class Text {
        static final int MOST = 1600;
        private static final int LINE_END = 10;
        // No line may have so many words, so what is behind them need not be kept.
        private static final int MOST_WORDS = 10;
        private static final int MOST_NAME = 8;

        private final byte[] signs = new byte[MOST];
        private final int[] from = new int[MOST_WORDS];
        private final int[] to = new int[MOST_WORDS];
        int size;
        int number;
        int words;
        private int next;

        static boolean isSign(int sign) {
            return sign == LINE_END || sign >= 32 && sign <= 126;
        }

        void add(int sign) {
            if (sign != 0 && size < MOST) {
                signs[size] = (byte) sign;
                size++;
            }
        }

        void rewind() {
            next = 0;
            number = NONE;
        }

        /** Goes to the next line that has words; where there is none, number is that of the text's end. */
        boolean toNextLine() {
            for (int n = 0; n <= MOST && next <= size; n++) {
                number++;
                splitLine();
                if (words > 0) {
                    return true;
                }
            }
            number++;
            return false;
        }

        private void splitLine() {
            boolean counts = true;
            boolean inWord = false;
            int at = next;
            words = 0;
            for (; at < size && signs[at] != LINE_END; at++) {
                counts = counts && signs[at] != '#';
                boolean isPart = counts && signs[at] != ' ';
                if (isPart && !inWord && words < MOST_WORDS) {
                    from[words] = at;
                    words++;
                }
                if (isPart) {
                    to[words - 1] = at + 1;
                }
                inWord = isPart;
            }
            next = at + 1;
        }

        int length(int word) {
            return to[word] - from[word];
        }

        int signOf(int word, int place) {
            return signs[from[word] + place];
        }

        boolean isWord(int word, String wanted) {
            if (length(word) != wanted.length()) {
                return false;
            }
            for (int k = 0; k < wanted.length(); k++) {
                if (signOf(word, k) != wanted.charAt(k)) {
                    return false;
                }
            }
            return true;
        }

        /** A name as a number, a byte for each sign; 0 if the word is no name. */
        long name(int word) {
            if (length(word) > MOST_NAME) {
                return 0;
            }
            long name = 0;
            for (int k = 0; k < length(word); k++) {
                int sign = signOf(word, k);
                if (!isNameSign(sign)) {
                    return 0;
                }
                name = name << 8 | sign;
            }
            return name;
        }

        private static boolean isNameSign(int sign) {
            return sign >= 'a' && sign <= 'z' || sign >= 'A' && sign <= 'Z'
                    || sign >= '0' && sign <= '9' || sign == '_';
        }

        /** A word of one to so many digits as a number; NONE if it is none. */
        int digits(int word, int mostDigits) {
            if (length(word) > mostDigits) {
                return NONE;
            }
            int number = 0;
            for (int k = 0; k < length(word); k++) {
                int sign = signOf(word, k);
                if (sign < '0' || sign > '9') {
                    return NONE;
                }
                number = 10 * number + sign - '0';
            }
            return number;
        }

        /** A word of so many signs 0 and 1 as a number, sign i its bit i; NONE if it is none. */
        int bits(int word, int width) {
            if (length(word) != width) {
                return NONE;
            }
            int bits = 0;
            for (int k = 0; k < width; k++) {
                int bit = signOf(word, k) - '0';
                if (bit < 0 || bit > 1) {
                    return NONE;
                }
                bits |= bit << k;
            }
            return bits;
        }

        /** A word of so many signs 0, 1 and - as a number, two bits for each; NONE if it is none. */
        int ask(int word, int width) {
            if (length(word) != width) {
                return NONE;
            }
            int ask = 0;
            for (int k = 0; k < width; k++) {
                int sign = signOf(word, k);
                if (sign != '0' && sign != '1' && sign != '-') {
                    return NONE;
                }
                ask |= (sign == '-' ? Netlist.EITHER : sign - '0') << 2 * k;
            }
            return ask;
        }
    }

    /** The tables of a text. */
    private static final class Netlist {
        static final int EITHER = 2;
        private static final int MOST_TABLES = 30;
        private static final int MOST_NAMES = 6;
        private static final int MOST_ROWS = 16;
        // What a line may be: the first one, the second one, one behind them, one behind .end.
        private static final int AT_INPUTS = 0;
        private static final int AT_OUTPUTS = 1;
        private static final int AT_TABLES = 2;
        private static final int AT_END = 3;

        int inputs;
        int outputs;
        int faultLine;
        final long[] inputNames = new long[MOST_INPUTS];
        final long[] outputNames = new long[MOST_OUTPUTS];
        private int outputLine;
        private int tables;
        private final long[] names = new long[MOST_TABLES * MOST_NAMES];
        private final int[] widths = new int[MOST_TABLES];
        private final int[] lines = new int[MOST_TABLES];
        private final int[] rowCounts = new int[MOST_TABLES];
        private final int[] rowEnds = new int[MOST_TABLES];
        private final int[] rows = new int[MOST_TABLES * MOST_ROWS];
        // Where a name comes from: an input, or MOST_INPUTS more than a table.
        private final int[] sources = new int[MOST_TABLES * MOST_NAMES];
        private final int[] outputSources = new int[MOST_OUTPUTS];
        private final int[] reached = new int[MOST_TABLES];
        private final int[] literals = new int[MOST_TABLES];

        /** The kind of the text's fault, 0 if there is none; faultLine tells where. */
        int scan(Text text) {
            int kind = scanLines(text);
            if (kind != 0) {
                faultLine = text.number;
                return kind;
            }
            faultLine = lineWithoutSource();
            if (faultLine != NONE) {
                return 3;
            }
            faultLine = lineOfRing();
            return faultLine == NONE ? 0 : 4;
        }

        private int scanLines(Text text) {
            inputs = 0;
            outputs = 0;
            tables = 0;
            int stage = AT_INPUTS;
            text.rewind();
            for (int n = 0; n <= Text.MOST && text.toNextLine(); n++) {
                int kind = scanLine(text, stage);
                if (kind != 0) {
                    return kind;
                }
                if (stage != AT_TABLES || text.isWord(0, ".end")) {
                    stage++;
                }
            }
            return stage == AT_END ? 0 : 1;
        }

        private int scanLine(Text text, int stage) {
            switch (stage) {
                case AT_INPUTS:
                    return scanInputs(text);
                case AT_OUTPUTS:
                    return scanOutputs(text);
                case AT_TABLES:
                    return text.isWord(0, ".end") ? (text.words == 1 ? 0 : 1)
                            : text.isWord(0, ".names") ? scanTable(text) : scanRow(text);
                default:
                    return 1;
            }
        }

        private int scanInputs(Text text) {
            if (!text.isWord(0, ".inputs") || !takeNames(text, inputNames, 0, MOST_INPUTS)) {
                return 1;
            }
            inputs = text.words - 1;
            return hasTwice(inputNames, inputs) ? 2 : 0;
        }

        private int scanOutputs(Text text) {
            if (!text.isWord(0, ".outputs") || !takeNames(text, outputNames, 0, MOST_OUTPUTS)) {
                return 1;
            }
            outputs = text.words - 1;
            outputLine = text.number;
            return hasTwice(outputNames, outputs) ? 2 : 0;
        }

        private int scanTable(Text text) {
            if (tables == MOST_TABLES || !takeNames(text, names, tables * MOST_NAMES, MOST_NAMES)) {
                return 1;
            }
            widths[tables] = text.words - 2;
            if (sourceOf(givenName(tables)) != NONE) {
                return 2;
            }
            lines[tables] = text.number;
            rowCounts[tables] = 0;
            rowEnds[tables] = 1;
            tables++;
            return 0;
        }

        private int scanRow(Text text) {
            int table = tables - 1;
            if (table < 0 || rowCounts[table] == MOST_ROWS) {
                return 1;
            }
            int width = widths[table];
            if (text.words != (width == 0 ? 1 : 2)) {
                return 1;
            }
            int ask = width == 0 ? 0 : text.ask(0, width);
            int rowEnd = text.bits(text.words - 1, 1);
            boolean isFirst = rowCounts[table] == 0;
            if (ask == NONE || rowEnd == NONE || !isFirst && rowEnd != rowEnds[table]) {
                return 1;
            }
            rowEnds[table] = rowEnd;
            rows[table * MOST_ROWS + rowCounts[table]] = ask;
            rowCounts[table]++;
            return 0;
        }

        private static boolean takeNames(Text text, long[] into, int at, int most) {
            int count = text.words - 1;
            if (count < 1 || count > most) {
                return false;
            }
            for (int k = 0; k < count; k++) {
                into[at + k] = text.name(k + 1);
                if (into[at + k] == 0) {
                    return false;
                }
            }
            return true;
        }

        private static boolean hasTwice(long[] names, int count) {
            for (int k = 0; k < count; k++) {
                for (int l = 0; l < k; l++) {
                    if (names[k] == names[l]) {
                        return true;
                    }
                }
            }
            return false;
        }

        private long givenName(int table) {
            return names[table * MOST_NAMES + widths[table]];
        }

        private int sourceOf(long name) {
            for (int k = 0; k < inputs; k++) {
                if (inputNames[k] == name) {
                    return k;
                }
            }
            for (int t = 0; t < tables; t++) {
                if (givenName(t) == name) {
                    return MOST_INPUTS + t;
                }
            }
            return NONE;
        }

        private int lineWithoutSource() {
            for (int k = 0; k < outputs; k++) {
                outputSources[k] = sourceOf(outputNames[k]);
                if (outputSources[k] == NONE) {
                    return outputLine;
                }
            }
            for (int t = 0; t < tables; t++) {
                for (int k = t * MOST_NAMES; k < t * MOST_NAMES + widths[t]; k++) {
                    sources[k] = sourceOf(names[k]);
                    if (sources[k] == NONE) {
                        return lines[t];
                    }
                }
            }
            return NONE;
        }

        private int lineOfRing() {
            findReached();
            for (int t = 0; t < tables; t++) {
                if ((reached[t] >> t & 1) != 0) {
                    return lines[t];
                }
            }
            return NONE;
        }

        private void findReached() {
            for (int t = 0; t < tables; t++) {
                reached[t] = 0;
                for (int k = t * MOST_NAMES; k < t * MOST_NAMES + widths[t]; k++) {
                    if (sources[k] >= MOST_INPUTS) {
                        reached[t] |= 1 << sources[k] - MOST_INPUTS;
                    }
                }
            }
            for (int through = 0; through < tables; through++) {
                for (int t = 0; t < tables; t++) {
                    if ((reached[t] >> through & 1) != 0) {
                        reached[t] |= reached[through];
                    }
                }
            }
        }

        void buildInto(Graph graph) {
            graph.restart(inputs, outputs);
            Arrays.fill(literals, NONE);
            for (int k = 0; k < outputs; k++) {
                graph.results[k] = literalOf(outputSources[k], graph, 0);
            }
        }

        /** Tables that need one another in a ring are a fault, so no way is longer than there are tables. */
        private int literalOf(int source, Graph graph, int tablesAbove) {
            if (source < MOST_INPUTS) {
                return 2 * (source + 1);
            }
            int table = source - MOST_INPUTS;
            if (literals[table] == NONE && tablesAbove < MOST_TABLES) {
                for (int k = 0; k < widths[table]; k++) {
                    literalOf(sources[table * MOST_NAMES + k], graph, tablesAbove + 1);
                }
                literals[table] = sumOf(table, graph);
            }
            return Math.max(literals[table], 0);
        }

        private int sumOf(int table, Graph graph) {
            int sum = 0;
            for (int r = 0; r < rowCounts[table]; r++) {
                sum = graph.or(sum, productOf(table, rows[table * MOST_ROWS + r], graph));
            }
            return rowEnds[table] == 0 ? sum ^ 1 : sum;
        }

        private int productOf(int table, int row, Graph graph) {
            int product = 1;
            for (int k = 0; k < widths[table]; k++) {
                int ask = row >> 2 * k & 3;
                if (ask != EITHER) {
                    int source = sources[table * MOST_NAMES + k];
                    int literal = source < MOST_INPUTS ? 2 * (source + 1) : literals[source - MOST_INPUTS];
                    product = graph.and(product, literal ^ 1 - ask);
                }
            }
            return product;
        }
    }

    /** The nodes: 0, the inputs, and gates, none of which has 0 or its opposite as one of its two. */
    private static final class Graph {
        int inputs;
        int outputs;
        int gates;
        boolean full;
        final int[] low = new int[MOST_NODES];
        final int[] high = new int[MOST_NODES];
        final int[] level = new int[MOST_NODES];
        final int[] results = new int[MOST_OUTPUTS];
        // The gates of the same lesser literal are a chain, which begins at first and ends with 0.
        private final int[] first = new int[MOST_LITERALS];
        private final int[] chain = new int[MOST_NODES];

        void restart(int inputCount, int outputCount) {
            inputs = inputCount;
            outputs = outputCount;
            gates = 0;
            full = false;
            Arrays.fill(first, 0);
            // Gates of an earlier graph may have stood where inputs stand now.
            Arrays.fill(level, 0);
        }

        int size() {
            return 1 + inputs + gates;
        }

        boolean isGate(int node) {
            return node > inputs && node < size();
        }

        int greatestLevel() {
            int greatest = 0;
            for (int k = 0; k < outputs; k++) {
                greatest = Math.max(greatest, level[results[k] >> 1]);
            }
            return greatest;
        }

        int or(int x, int y) {
            return and(x ^ 1, y ^ 1) ^ 1;
        }

        int and(int x, int y) {
            int lesser = Math.min(x, y);
            int greater = Math.max(x, y);
            if (lesser == 0 || lesser == greater) {
                return lesser;
            }
            if (lesser == 1) {
                return greater;
            }
            if ((lesser ^ 1) == greater) {
                return 0;
            }
            int there = gateThere(lesser, greater);
            return 2 * (there != 0 ? there : newGate(lesser, greater));
        }

        /** 0 if there is none. */
        private int gateThere(int lesser, int greater) {
            int gate = first[lesser];
            for (int n = 0; n < MOST_GATES && gate != 0 && high[gate] != greater; n++) {
                gate = chain[gate];
            }
            return gate;
        }

        /** Where there is no room, 0 stands for the gate: what is made then is thrown away. */
        private int newGate(int lesser, int greater) {
            if (gates == MOST_GATES) {
                full = true;
                return 0;
            }
            int gate = size();
            gates++;
            low[gate] = lesser;
            high[gate] = greater;
            level[gate] = 1 + Math.max(level[lesser >> 1], level[greater >> 1]);
            chain[gate] = first[lesser];
            first[lesser] = gate;
            return gate;
        }
    }

    /** What each node is for all inputs, always of eight, so that all have as many bits. */
    private static final class Functions {
        private static final int WORDS = 4;
        private static final long[] PATTERNS = {
            0xAAAAAAAAAAAAAAAAL, 0xCCCCCCCCCCCCCCCCL, 0xF0F0F0F0F0F0F0F0L,
            0xFF00FF00FF00FF00L, 0xFFFF0000FFFF0000L, 0xFFFFFFFF00000000L};

        boolean known;
        private final long[] bits = new long[MOST_NODES * WORDS];
        private final int[] parts = new int[1 << MOST_INPUTS];
        private final int[] zeroParts = new int[1 << MOST_INPUTS - 1];
        private final int[] oneParts = new int[1 << MOST_INPUTS - 1];

        void find(Graph graph) {
            if (known) {
                return;
            }
            for (int word = 0; word < WORDS; word++) {
                for (int k = 0; k < graph.inputs; k++) {
                    bits[(k + 1) * WORDS + word] = inputWord(k, word);
                }
                for (int node = graph.inputs + 1; node < graph.size(); node++) {
                    bits[node * WORDS + word] = word(graph.low[node], word) & word(graph.high[node], word);
                }
            }
            known = true;
        }

        private static long inputWord(int k, int word) {
            if (k < PATTERNS.length) {
                return PATTERNS[k];
            }
            return -(long) (word >> k - PATTERNS.length & 1);
        }

        private long word(int literal, int word) {
            return bits[(literal >> 1) * WORDS + word] ^ -(long) (literal & 1);
        }

        int bit(int literal, int inputs) {
            return (int) (word(literal, inputs >> 6) >>> (inputs & 63) & 1);
        }

        boolean areSame(int literal, int other) {
            return leastUnlike(literal, other) == NONE;
        }

        int leastUnlike(int literal, int other) {
            for (int word = 0; word < WORDS; word++) {
                long unlike = word(literal, word) ^ word(other, word);
                if (unlike != 0) {
                    return 64 * word + Long.numberOfTrailingZeros(unlike);
                }
            }
            return NONE;
        }

        int ones(int literal, int inputs) {
            int count = 0;
            for (int word = 0; word < WORDS; word++) {
                count += Long.bitCount(word(literal, word));
            }
            return count >> MOST_INPUTS - inputs;
        }

        int firstAsked(int literal, int inputs) {
            for (int k = 0; k < inputs; k++) {
                for (int i = 0; i < 1 << inputs; i++) {
                    if (bit(literal, i) != bit(literal, i ^ 1 << k)) {
                        return k;
                    }
                }
            }
            return NONE;
        }

        /** From the last input to the first one; parts tells which question stands for what is left. */
        int questions(int literal, int inputs) {
            for (int i = 0; i < 1 << inputs; i++) {
                parts[i] = bit(literal, i);
            }
            int questions = 0;
            for (int k = inputs - 1; k >= 0; k--) {
                questions += askInput(k, questions + 2);
            }
            return questions;
        }

        private int askInput(int k, int firstNumber) {
            int asked = 0;
            for (int i = 0; i < 1 << k; i++) {
                int zeroPart = parts[i];
                int onePart = parts[i + (1 << k)];
                if (zeroPart == onePart) {
                    continue;
                }
                int question = questionOf(zeroPart, onePart, asked);
                if (question == asked) {
                    zeroParts[asked] = zeroPart;
                    oneParts[asked] = onePart;
                    asked++;
                }
                parts[i] = firstNumber + question;
            }
            return asked;
        }

        private int questionOf(int zeroPart, int onePart, int asked) {
            for (int q = 0; q < asked; q++) {
                if (zeroParts[q] == zeroPart && oneParts[q] == onePart) {
                    return q;
                }
            }
            return asked;
        }
    }

    /**
     * The cuts of all gates that aren't spare. A cut is a number, a byte for each node, the greatest one
     * lowest: so the lesser number is the cut of fewer nodes, then the one whose least node is least.
     */
    private static final class Cuts {
        static final int MOST_SIZE = 5;
        private static final int MOST_CUTS = 300;

        int most;
        final int[] depth = new int[MOST_NODES];
        // Of each node itself alone, then its cuts from start + 1 on, those of fewer nodes first.
        private final int[] start = new int[MOST_NODES + 1];
        private int used;
        private long[] pool = new long[1024];
        // A bit for each node, which several nodes may share: it tells quickly that no node is common.
        private long[] marks = new long[1024];

        static int sizeOf(long cut) {
            return 8 - Long.numberOfLeadingZeros(cut) / 8;
        }

        static int nodeAt(long cut, int place) {
            return (int) (cut >>> 8 * (sizeOf(cut) - 1 - place) & 255);
        }

        int firstOf(int gate) {
            return start[gate] + 1;
        }

        int behindLastOf(int gate) {
            return start[gate + 1];
        }

        long cutAt(int place) {
            return pool[place];
        }

        /** False if a gate has too many. What was found for the same graph is kept until most is set to 0. */
        boolean find(Graph graph, int mostNodes) {
            if (most == mostNodes) {
                return true;
            }
            most = 0;
            used = 0;
            for (int node = 1; node < graph.size(); node++) {
                start[node] = used;
                depth[node] = 0;
                add(node, 1L << (node & 63));
                if (graph.isGate(node) && !findOf(graph, node, mostNodes)) {
                    return false;
                }
                start[node + 1] = used;
            }
            most = mostNodes;
            return true;
        }

        /** Those of fewer nodes first: then one that isn't spare when it is found stays so. */
        private boolean findOf(Graph graph, int gate, int mostNodes) {
            for (int size = 2; size <= mostNodes; size++) {
                if (!joinAll(graph.low[gate] >> 1, graph.high[gate] >> 1, size, start[gate] + 1)) {
                    return false;
                }
            }
            int least = MOST_NODES;
            for (int at = start[gate] + 1; at < used; at++) {
                least = Math.min(least, depthOf(pool[at]));
            }
            depth[gate] = least;
            return true;
        }

        private boolean joinAll(int x, int y, int size, int own) {
            long limit = 1L << 8 * size;
            for (int i = start[x]; i < start[x + 1] && pool[i] < limit; i++) {
                for (int j = start[y]; j < start[y + 1] && pool[j] < limit; j++) {
                    long mark = marks[i] | marks[j];
                    long cut = Long.bitCount(mark) > size ? 0 : join(pool[i], pool[j], size);
                    if (cut >>> 8 * (size - 1) == 0 || hasPart(cut, mark, own)) {
                        continue;
                    }
                    if (used - own == MOST_CUTS) {
                        return false;
                    }
                    add(cut, mark);
                }
            }
            return true;
        }

        /** 0 if both together have more nodes than size. */
        private static long join(long x, long y, int size) {
            long restOfX = x;
            long restOfY = y;
            long joined = 0;
            for (int n = 0; n < size; n++) {
                long greatest = Math.max(restOfX & 255, restOfY & 255);
                joined |= greatest << 8 * n;
                restOfX = (restOfX & 255) == greatest ? restOfX >>> 8 : restOfX;
                restOfY = (restOfY & 255) == greatest ? restOfY >>> 8 : restOfY;
            }
            return restOfX == 0 && restOfY == 0 ? joined : 0;
        }

        private boolean hasPart(long cut, long mark, int own) {
            for (int at = own; at < used; at++) {
                if ((marks[at] & ~mark) == 0 && isPart(pool[at], cut)) {
                    return true;
                }
            }
            return false;
        }

        private static boolean isPart(long cut, long whole) {
            long rest = cut;
            for (long left = whole; left != 0; left >>>= 8) {
                if ((rest & 255) == (left & 255)) {
                    rest >>>= 8;
                }
            }
            return rest == 0;
        }

        private void add(long cut, long mark) {
            if (used == pool.length) {
                pool = Arrays.copyOf(pool, 2 * used);
                marks = Arrays.copyOf(marks, 2 * used);
            }
            pool[used] = cut;
            marks[used] = mark;
            used++;
        }

        int depthOf(long cut) {
            int greatest = 0;
            for (long left = cut; left != 0; left >>>= 8) {
                greatest = Math.max(greatest, depth[(int) (left & 255)]);
            }
            return greatest + 1;
        }

        long bestOf(int gate) {
            long best = Long.MAX_VALUE;
            for (int at = firstOf(gate); at < behindLastOf(gate); at++) {
                if (pool[at] < best && depthOf(pool[at]) == depth[gate]) {
                    best = pool[at];
                }
            }
            return best;
        }
    }

    /** The gates between a gate and a cut, and what they give. */
    private static final class Cone {
        private static final int[] PATTERNS = {0xAAAAAAAA, 0xCCCCCCCC, 0xF0F0F0F0, 0xFF00FF00, 0xFFFF0000};
        private static final int OUTSIDE = 0;
        private static final int BETWEEN = 1;
        private static final int AT_CUT = 2;

        int size;
        int table;
        final int[] nodes = new int[Cuts.MOST_SIZE];
        private final int[] side = new int[MOST_NODES];
        private final int[] values = new int[MOST_NODES];

        static int full(int size) {
            return size == Cuts.MOST_SIZE ? -1 : (1 << (1 << size)) - 1;
        }

        boolean isBetween(int node) {
            return side[node] == BETWEEN;
        }

        void find(Graph graph, int gate, long cut) {
            takeCut(cut);
            side[gate] = BETWEEN;
            for (int node = gate; node > nodes[0]; node--) {
                if (side[node] == BETWEEN) {
                    reach(graph.low[node] >> 1);
                    reach(graph.high[node] >> 1);
                }
            }
            for (int node = nodes[0] + 1; node <= gate; node++) {
                if (side[node] == BETWEEN) {
                    values[node] = valueOf(graph.low[node]) & valueOf(graph.high[node]);
                }
            }
            table = values[gate] & full(size);
        }

        private void takeCut(long cut) {
            Arrays.fill(side, OUTSIDE);
            size = Cuts.sizeOf(cut);
            for (int k = 0; k < size; k++) {
                int node = (int) (cut >>> 8 * (size - 1 - k) & 255);
                nodes[k] = node;
                side[node] = AT_CUT;
                values[node] = PATTERNS[k];
            }
        }

        private void reach(int node) {
            if (side[node] == OUTSIDE) {
                side[node] = BETWEEN;
            }
        }

        private int valueOf(int literal) {
            return values[literal >> 1] ^ -(literal & 1);
        }
    }

    /** Makes a graph anew, gate by gate. */
    private static final class Remaker {
        private static final int MOST_PLACES = 4;
        private static final int[] POWERS = {1, 3, 9, 27, 81};

        private final boolean[] needed = new boolean[MOST_NODES];
        // How often needed gates and outputs use a node, and how often gates between do.
        private final int[] uses = new int[MOST_NODES];
        private final int[] usesBetween = new int[MOST_NODES];
        private final boolean[] isApart = new boolean[MOST_NODES];
        private final int[] fresh = new int[MOST_NODES];
        private final int[] waiting = new int[MOST_NODES + 1];
        private final int[] row = new int[MOST_NODES + 1];
        private int rowSize;
        // Of each product of nodes at up to four places, by its number: where it is 1, and its nodes.
        private final int[] productBits = new int[81];
        private final int[] productNodes = new int[81];
        private final int[] sum = new int[1 << MOST_PLACES];
        private int sumSize;

        Remaker() {
            for (int product = 0; product < productBits.length; product++) {
                productBits[product] = 0xFFFF;
                for (int place = 0; place < MOST_PLACES; place++) {
                    int part = product / POWERS[place] % 3;
                    int pattern = Cone.PATTERNS[place] & 0xFFFF;
                    productBits[product] &= part == 0 ? 0xFFFF : part == 1 ? pattern : ~pattern;
                    productNodes[product] += part == 0 ? 0 : 1;
                }
            }
        }

        void makeBalanced(Graph from, Graph to) {
            begin(from, to);
            findApart(from);
            for (int gate = from.inputs + 1; gate < from.size(); gate++) {
                if (needed[gate] && !isApart[gate]) {
                    findLeaves(from, gate);
                    fresh[gate] = joinRow(to);
                }
            }
            takeResults(from, to);
        }

        void makeReduced(Graph from, Graph to, Functions functions) {
            begin(from, to);
            for (int gate = from.inputs + 1; gate < from.size(); gate++) {
                if (needed[gate]) {
                    int alike = literalAlike(from, gate, functions);
                    fresh[gate] = alike == NONE ? freshAnd(from, to, gate) : freshOf(alike);
                }
            }
            takeResults(from, to);
        }

        void makeRewritten(Graph from, Graph to, Cuts cuts, Cone cone) {
            begin(from, to);
            for (int gate = from.inputs + 1; gate < from.size(); gate++) {
                if (needed[gate]) {
                    cone.find(from, gate, cuts.bestOf(gate));
                    findSum(cone.table, cone.size);
                    boolean isCheaper = sumCost() < freedBy(from, gate, cone);
                    fresh[gate] = isCheaper ? freshSum(to, cone) : freshAnd(from, to, gate);
                }
            }
            takeResults(from, to);
        }

        private void begin(Graph from, Graph to) {
            to.restart(from.inputs, from.outputs);
            for (int node = 0; node < from.size(); node++) {
                needed[node] = false;
                uses[node] = 0;
                fresh[node] = 2 * node;
            }
            for (int k = 0; k < from.outputs; k++) {
                use(from.results[k]);
            }
            for (int gate = from.size() - 1; gate > from.inputs; gate--) {
                if (needed[gate]) {
                    use(from.low[gate]);
                    use(from.high[gate]);
                }
            }
        }

        private void use(int literal) {
            needed[literal >> 1] = true;
            uses[literal >> 1]++;
        }

        private void takeResults(Graph from, Graph to) {
            for (int k = 0; k < from.outputs; k++) {
                to.results[k] = freshOf(from.results[k]);
            }
        }

        private int freshOf(int literal) {
            return fresh[literal >> 1] ^ literal & 1;
        }

        private int freshAnd(Graph from, Graph to, int gate) {
            return to.and(freshOf(from.low[gate]), freshOf(from.high[gate]));
        }

        private void findApart(Graph from) {
            for (int gate = from.inputs + 1; gate < from.size(); gate++) {
                isApart[gate] = false;
                if (needed[gate]) {
                    markApart(from, from.low[gate]);
                    markApart(from, from.high[gate]);
                }
            }
        }

        private void markApart(Graph from, int literal) {
            int node = literal >> 1;
            isApart[node] = (literal & 1) == 0 && from.isGate(node) && uses[node] == 1;
        }

        private void findLeaves(Graph from, int gate) {
            rowSize = 0;
            waiting[0] = 2 * gate;
            int left = 1;
            for (int n = 0; n < MOST_LITERALS && left > 0; n++) {
                left--;
                int literal = waiting[left];
                int node = literal >> 1;
                if (node == gate || isApart[node]) {
                    waiting[left] = from.high[node];
                    waiting[left + 1] = from.low[node];
                    left += 2;
                } else {
                    row[rowSize] = freshOf(literal);
                    rowSize++;
                }
            }
        }

        private int joinRow(Graph to) {
            for (int n = 0; n <= MOST_NODES && rowSize > 1; n++) {
                int x = takeLeast(to);
                int y = takeLeast(to);
                row[rowSize] = to.and(x, y);
                rowSize++;
            }
            return row[0];
        }

        private int takeLeast(Graph to) {
            int place = 0;
            for (int k = 1; k < rowSize; k++) {
                if (to.level[row[k] >> 1] < to.level[row[place] >> 1]) {
                    place = k;
                }
            }
            int taken = row[place];
            rowSize--;
            for (int k = place; k < rowSize; k++) {
                row[k] = row[k + 1];
            }
            return taken;
        }

        private int literalAlike(Graph from, int gate, Functions functions) {
            for (int node = 0; node < gate; node++) {
                if (from.isGate(node) && !needed[node]) {
                    continue;
                }
                if (functions.areSame(2 * node, 2 * gate)) {
                    return 2 * node;
                }
                if (functions.areSame(2 * node + 1, 2 * gate)) {
                    return 2 * node + 1;
                }
            }
            return NONE;
        }

        private int freedBy(Graph from, int gate, Cone cone) {
            for (int node = cone.nodes[0]; node <= gate; node++) {
                usesBetween[node] = 0;
            }
            int freed = 1;
            for (int node = gate; node > cone.nodes[0]; node--) {
                if (cone.isBetween(node)) {
                    usesBetween[from.low[node] >> 1]++;
                    usesBetween[from.high[node] >> 1]++;
                    freed += node != gate && usesBetween[node] == uses[node] ? 1 : 0;
                }
            }
            return freed;
        }

        /** The product of the fewest nodes that fits is always a prime: else one of fewer would fit, too. */
        private void findSum(int table, int size) {
            int left = table;
            sumSize = 0;
            for (int n = 0; n < 1 << MOST_PLACES && left != 0; n++) {
                sum[sumSize] = productAt(Integer.numberOfTrailingZeros(left), table, size);
                left &= ~productBits[sum[sumSize]];
                sumSize++;
            }
        }

        private int productAt(int bit, int table, int size) {
            int zeros = Cone.full(size) & ~table;
            int best = NONE;
            for (int product = 0; product < POWERS[size]; product++) {
                boolean fits = (productBits[product] >> bit & 1) != 0 && (productBits[product] & zeros) == 0;
                if (fits && (best == NONE || productNodes[product] < productNodes[best])) {
                    best = product;
                }
            }
            return Math.max(best, 0);
        }

        private int sumCost() {
            int cost = Math.max(sumSize - 1, 0);
            for (int k = 0; k < sumSize; k++) {
                cost += Math.max(productNodes[sum[k]] - 1, 0);
            }
            return cost;
        }

        private int freshSum(Graph to, Cone cone) {
            int whole = 0;
            for (int k = 0; k < sumSize; k++) {
                int product = 1;
                for (int place = 0; place < cone.size; place++) {
                    int part = sum[k] / POWERS[place] % 3;
                    if (part != 0) {
                        product = to.and(product, fresh[cone.nodes[place]] ^ part - 1);
                    }
                }
                whole = to.or(whole, product);
            }
            return whole;
        }
    }

    /** The cells that were chosen for a graph. */
    private static final class Cover {
        int size;
        int greatest;
        final int[] gates = new int[MOST_GATES];
        final int[] tables = new int[MOST_GATES];
        final int[] depths = new int[MOST_GATES];
        // By nodes: the cut that was taken, and the time, NONE of what isn't wanted.
        private final long[] taken = new long[MOST_NODES];
        private final int[] times = new int[MOST_NODES];

        long cutOf(int cell) {
            return taken[gates[cell]];
        }

        void choose(Graph graph, Cuts cuts, Cone cone, boolean few) {
            wantOutputs(graph, cuts);
            for (int gate = graph.size() - 1; gate > graph.inputs; gate--) {
                if (times[gate] != NONE) {
                    taken[gate] = few ? fewest(graph, cuts, gate) : cuts.bestOf(gate);
                    wantNodes(graph, taken[gate], times[gate] - 1);
                }
            }
            size = 0;
            for (int gate = graph.inputs + 1; gate < graph.size(); gate++) {
                if (times[gate] != NONE) {
                    cone.find(graph, gate, taken[gate]);
                    gates[size] = gate;
                    tables[size] = cone.table;
                    depths[size] = cuts.depth[gate];
                    size++;
                }
            }
        }

        private void wantOutputs(Graph graph, Cuts cuts) {
            Arrays.fill(times, NONE);
            greatest = 0;
            for (int k = 0; k < graph.outputs; k++) {
                greatest = Math.max(greatest, cuts.depth[graph.results[k] >> 1]);
            }
            for (int k = 0; k < graph.outputs; k++) {
                int node = graph.results[k] >> 1;
                if (graph.isGate(node)) {
                    times[node] = greatest;
                }
            }
        }

        private void wantNodes(Graph graph, long cut, int time) {
            for (int place = 0; place < Cuts.sizeOf(cut); place++) {
                int node = Cuts.nodeAt(cut, place);
                if (graph.isGate(node)) {
                    times[node] = times[node] == NONE ? time : Math.min(times[node], time);
                }
            }
        }

        private long fewest(Graph graph, Cuts cuts, int gate) {
            long best = Long.MAX_VALUE;
            int fewest = MOST_NODES;
            for (int at = cuts.firstOf(gate); at < cuts.behindLastOf(gate); at++) {
                long cut = cuts.cutAt(at);
                if (cuts.depthOf(cut) > times[gate]) {
                    continue;
                }
                int unwanted = unwantedIn(graph, cut);
                if (unwanted < fewest || unwanted == fewest && cut < best) {
                    fewest = unwanted;
                    best = cut;
                }
            }
            return best;
        }

        private int unwantedIn(Graph graph, long cut) {
            int unwanted = 0;
            for (long left = cut; left != 0; left >>>= 8) {
                int node = (int) (left & 255);
                unwanted += graph.isGate(node) && times[node] == NONE ? 1 : 0;
            }
            return unwanted;
        }

        void writeTo(Script script, Netlist netlist, Graph graph) {
            script.writeHead(netlist);
            for (int c = 0; c < size; c++) {
                int width = Cuts.sizeOf(cutOf(c));
                script.signs.append(".names");
                for (int k = 0; k < width; k++) {
                    script.writeNode(netlist, Cuts.nodeAt(cutOf(c), k));
                }
                script.writeNode(netlist, gates[c]);
                script.signs.append('\n');
                writeRows(script, tables[c], width);
            }
            for (int k = 0; k < graph.outputs; k++) {
                int literal = graph.results[k];
                script.writeResult(netlist, k, literal & ~1, (literal & 1) != 0);
            }
            script.close();
        }

        private static void writeRows(Script script, int table, int width) {
            for (int i = 0; i < 1 << width; i++) {
                if ((table >>> i & 1) == 0) {
                    continue;
                }
                for (int k = 0; k < width; k++) {
                    script.signs.append((i >> k & 1) == 0 ? '0' : '1');
                }
                script.signs.append(" 1\n");
            }
        }
    }

    /** The cells of a library, and all ways in which their pins may stand at a cut's places. */
    private static final class Library {
        private static final int MOST_CELLS = 12;
        private static final int MOST_PINS = 3;
        private static final int MOST_WAYS = MOST_CELLS * 48;

        int cells;
        int inverter;
        final long[] names = new long[MOST_CELLS];
        final int[] areas = new int[MOST_CELLS];
        final int[] delays = new int[MOST_CELLS];
        final int[] pins = new int[MOST_CELLS];
        final int[] tables = new int[MOST_CELLS];
        private int ways;
        private final int[] wayCells = new int[MOST_WAYS];
        // Three bits for each pin: twice its place, and 1 more for the opposite.
        private final int[] wayPlaces = new int[MOST_WAYS];
        // The ways that give the same table are a chain, which begins at first and ends with NONE.
        private final int[] chain = new int[MOST_WAYS];
        private final int[] first = new int[512];

        /** The kind of the text's fault, 0 if there is none; the text is at its line. */
        int scan(Text text) {
            cells = 0;
            boolean isEnded = false;
            text.rewind();
            for (int n = 0; n <= Text.MOST && text.toNextLine(); n++) {
                int kind = isEnded ? 1 : scanLine(text);
                if (kind != 0) {
                    return kind;
                }
                isEnded = text.isWord(0, ".end");
            }
            if (!isEnded) {
                return 1;
            }
            findInverter();
            findWays();
            return 0;
        }

        private int scanLine(Text text) {
            if (text.isWord(0, ".end")) {
                return text.words == 1 && cells > 0 ? 0 : 1;
            }
            if (!text.isWord(0, "cell") || text.words != 5 || cells == MOST_CELLS || !takeCell(text)) {
                return 1;
            }
            for (int i = 0; i < cells; i++) {
                if (names[i] == names[cells]) {
                    return 2;
                }
            }
            cells++;
            return 0;
        }

        private boolean takeCell(Text text) {
            names[cells] = text.name(1);
            areas[cells] = text.digits(2, 3);
            delays[cells] = text.digits(3, 2);
            for (int p = 1; p <= MOST_PINS; p++) {
                if (text.length(4) == 1 << p) {
                    pins[cells] = p;
                    tables[cells] = text.bits(4, 1 << p);
                    return names[cells] != 0 && areas[cells] != NONE && delays[cells] > 0 && tables[cells] != NONE;
                }
            }
            return false;
        }

        private void findInverter() {
            inverter = NONE;
            for (int i = 0; i < cells; i++) {
                if (pins[i] == 1 && tables[i] == 1 && (inverter == NONE || isQuicker(i, inverter))) {
                    inverter = i;
                }
            }
        }

        private boolean isQuicker(int i, int other) {
            return delays[i] < delays[other] || delays[i] == delays[other] && areas[i] < areas[other];
        }

        private void findWays() {
            ways = 0;
            Arrays.fill(first, NONE);
            for (int i = 0; i < cells; i++) {
                // No gate has a cut of one node, so cells of one pin stand at none.
                for (int places = 0; pins[i] > 1 && places < 1 << 3 * pins[i]; places++) {
                    if (isEachOnce(places, pins[i])) {
                        addWay(i, places);
                    }
                }
            }
        }

        private static boolean isEachOnce(int places, int pins) {
            int seen = 0;
            for (int k = 0; k < pins; k++) {
                seen |= 1 << (places >> 3 * k + 1 & 3);
            }
            return seen == (1 << pins) - 1;
        }

        private void addWay(int cell, int places) {
            int table = 0;
            for (int i = 0; i < 1 << pins[cell]; i++) {
                int atPins = 0;
                for (int k = 0; k < pins[cell]; k++) {
                    int place = places >> 3 * k & 7;
                    atPins |= (i >> (place >> 1) & 1 ^ place & 1) << k;
                }
                table |= (tables[cell] >> atPins & 1) << i;
            }
            int list = listOf(pins[cell], table);
            wayCells[ways] = cell;
            wayPlaces[ways] = places;
            chain[ways] = first[list];
            first[list] = ways;
            ways++;
        }

        static int listOf(int size, int table) {
            return (1 << (1 << size)) + table;
        }
    }

    /**
     * What each literal is made by. A match is a number: its time, its cell's area, its cell and the literals
     * at its pins, from the highest bits on, so that the lesser one goes first.
     */
    private static final class Mapping {
        private static final long GIVEN = 0;
        private static final long NO_MATCH = Long.MAX_VALUE;
        private static final int TIME_AT = 44;
        private static final int AREA_AT = 34;
        private static final int CELL_AT = 30;
        private static final int PIN_BITS = 10;

        int size;
        int area;
        int time;
        final int[] literals = new int[MOST_LITERALS];
        final long[] made = new long[MOST_LITERALS];
        private final long[] plain = new long[MOST_LITERALS];
        private final boolean[] wanted = new boolean[MOST_LITERALS];

        static int timeOf(long match) {
            return (int) (match >>> TIME_AT);
        }

        static int cellOf(long match) {
            return (int) (match >>> CELL_AT & 15);
        }

        static int pinOf(long match, int pin) {
            return (int) (match >>> CELL_AT - PIN_BITS * (pin + 1) & 1023);
        }

        /** False if there is an output that can't be made. */
        boolean find(Graph graph, Cuts cuts, Cone cone, Library library) {
            findMatches(graph, cuts, cone, library);
            made[0] = GIVEN;
            made[1] = GIVEN;
            time = 0;
            for (int literal = 0; literal < 2 * graph.size(); literal++) {
                wanted[literal] = false;
            }
            for (int k = 0; k < graph.outputs; k++) {
                int literal = graph.results[k];
                if (made[literal] == NO_MATCH) {
                    return false;
                }
                wanted[literal] = true;
                time = Math.max(time, timeOf(made[literal]));
            }
            wantPins(graph, library);
            takeInstances(graph, library);
            return true;
        }

        private void findMatches(Graph graph, Cuts cuts, Cone cone, Library library) {
            for (int node = 1; node < graph.size(); node++) {
                plain[2 * node] = NO_MATCH;
                plain[2 * node + 1] = NO_MATCH;
                if (graph.isGate(node)) {
                    findPlain(graph, node, cuts, cone, library);
                } else {
                    plain[2 * node] = GIVEN;
                }
                made[2 * node] = madeBy(2 * node, library);
                made[2 * node + 1] = madeBy(2 * node + 1, library);
            }
        }

        private void findPlain(Graph graph, int gate, Cuts cuts, Cone cone, Library library) {
            for (int at = cuts.firstOf(gate); at < cuts.behindLastOf(gate); at++) {
                cone.find(graph, gate, cuts.cutAt(at));
                int table = cone.table;
                int opposite = table ^ Cone.full(cone.size);
                plain[2 * gate] = Math.min(plain[2 * gate], leastMatch(table, cone, library));
                plain[2 * gate + 1] = Math.min(plain[2 * gate + 1], leastMatch(opposite, cone, library));
            }
        }

        private long leastMatch(int table, Cone cone, Library library) {
            long least = NO_MATCH;
            int way = library.first[Library.listOf(cone.size, table)];
            for (int n = 0; n < Library.MOST_WAYS && way != NONE; n++) {
                least = Math.min(least, matchOf(way, cone, library));
                way = library.chain[way];
            }
            return least;
        }

        private long matchOf(int way, Cone cone, Library library) {
            int cell = library.wayCells[way];
            int greatest = 0;
            long pins = 0;
            for (int k = 0; k < library.pins[cell]; k++) {
                int place = library.wayPlaces[way] >> 3 * k & 7;
                int literal = 2 * cone.nodes[place >> 1] + (place & 1);
                if (made[literal] == NO_MATCH) {
                    return NO_MATCH;
                }
                greatest = Math.max(greatest, timeOf(made[literal]));
                pins |= (long) literal << CELL_AT - PIN_BITS * (k + 1);
            }
            return pack(cell, greatest, pins, library);
        }

        private static long pack(int cell, int pinTime, long pins, Library library) {
            long time = pinTime + library.delays[cell];
            return time << TIME_AT | (long) library.areas[cell] << AREA_AT | (long) cell << CELL_AT | pins;
        }

        private long madeBy(int literal, Library library) {
            long own = plain[literal];
            long opposite = plain[literal ^ 1];
            if (own == GIVEN || opposite == NO_MATCH || library.inverter == NONE) {
                return own;
            }
            long pins = (long) (literal ^ 1) << CELL_AT - PIN_BITS;
            long turn = pack(library.inverter, timeOf(opposite), pins, library);
            return turn >>> AREA_AT < own >>> AREA_AT ? turn : own;
        }

        /** A turn has the opposite at its pin, so both literals of a node are looked at twice. */
        private void wantPins(Graph graph, Library library) {
            for (int node = graph.size() - 1; node > 0; node--) {
                for (int n = 0; n < 4; n++) {
                    int literal = 2 * node + (n & 1);
                    if (!wanted[literal] || made[literal] == GIVEN) {
                        continue;
                    }
                    for (int k = 0; k < library.pins[cellOf(made[literal])]; k++) {
                        wanted[pinOf(made[literal], k)] = true;
                    }
                }
            }
        }

        private void takeInstances(Graph graph, Library library) {
            size = 0;
            area = 0;
            for (int literal = 2; literal < 2 * graph.size(); literal++) {
                if (wanted[literal] && made[literal] != GIVEN) {
                    literals[size] = literal;
                    area += library.areas[cellOf(made[literal])];
                    size++;
                }
            }
        }

        void writeTo(Script script, Netlist netlist, Graph graph, Library library) {
            script.writeHead(netlist);
            for (int i = 0; i < size; i++) {
                long match = made[literals[i]];
                int cell = cellOf(match);
                script.signs.append(".gate");
                script.writeName(library.names[cell]);
                for (int k = 0; k < library.pins[cell]; k++) {
                    script.writeLiteral(netlist, pinOf(match, k));
                }
                script.writeLiteral(netlist, literals[i]);
                script.signs.append('\n');
            }
            for (int k = 0; k < graph.outputs; k++) {
                script.writeResult(netlist, k, graph.results[k], false);
            }
            script.close();
        }
    }

    /** A text that is written; it is kept until what it tells is made anew. */
    private static final class Script {
        boolean ready;
        final StringBuilder signs = new StringBuilder();

        int signAt(int k) {
            return k < signs.length() ? signs.charAt(k) : NONE;
        }

        void writeHead(Netlist netlist) {
            signs.setLength(0);
            signs.append(".inputs");
            for (int k = 0; k < netlist.inputs; k++) {
                writeName(netlist.inputNames[k]);
            }
            signs.append("\n.outputs");
            for (int k = 0; k < netlist.outputs; k++) {
                writeName(netlist.outputNames[k]);
            }
            signs.append('\n');
        }

        void writeName(long name) {
            signs.append(' ');
            for (int at = 56; at >= 0; at -= 8) {
                int sign = (int) (name >>> at & 255);
                if (sign != 0) {
                    signs.append((char) sign);
                }
            }
        }

        void writeNode(Netlist netlist, int node) {
            writeLiteral(netlist, 2 * node);
        }

        void writeLiteral(Netlist netlist, int literal) {
            int node = literal >> 1;
            if ((literal & 1) == 0 && node >= 1 && node <= netlist.inputs) {
                writeName(netlist.inputNames[node - 1]);
                return;
            }
            signs.append((literal & 1) == 0 ? " n_" : " m_");
            signs.append(node);
        }

        /** Output k as the literal that is named, or its opposite. */
        void writeResult(Netlist netlist, int k, int named, boolean isTurned) {
            boolean isFixed = named < 2;
            signs.append(".names");
            if (!isFixed) {
                writeLiteral(netlist, named);
            }
            writeName(netlist.outputNames[k]);
            signs.append('\n');
            if (!isFixed) {
                signs.append(isTurned ? "0 1\n" : "1 1\n");
            } else if (named == 1 || isTurned) {
                signs.append("1\n");
            }
        }

        void close() {
            signs.append(".end\n");
            ready = true;
        }
    }
}
