/** Promises 1 to 5 and section 1 of the terms: each sentence that names a boundary case has a test of its own. */
public final class TextEdgesTest extends Checks {
    private static final String HEAD = ".inputs a b\n.outputs y\n";
    private static final String LEAST_TEXT = ".inputs a\n.outputs a\n.end";

    public static void main(String[] args) {
        objectsAndSigns();
        lines();
        headLines();
        tables();
        names();
        rowsAreMet();
        faultLines();
        firstFaults();
        laterFaults();
        readAndLine();
        endTests();
    }

    // ---- promises 1 to 3

    private static void objectsAndSigns() {
        says("An empty text", TextEdgesTest::emptyText);
        says("no netlist.", TextEdgesTest::noNetlist);
        says("Four more signs, the lowest byte first", TextEdgesTest::lowestByteFirst);
        says("(0 is left out)", TextEdgesTest::zeroIsLeftOut);
        says("how many there are", TextEdgesTest::howMany);
        says("32 .. 126 and line ends (10)", TextEdgesTest::signs);
        says("IllegalArgumentException if a byte is none of those", TextEdgesTest::badByteAmongGoodOnes);
        says("UnsupportedOperationException if there would be more than 1600.", TextEdgesTest::mostSigns);
        says("A TEXT has at most 1600 signs", TextEdgesTest::fullText);
        says("Of several exceptions that one is thrown which the call names first. (put)",
                TextEdgesTest::badAndTooMany);
        says("The text has its first n signs.", TextEdgesTest::firstSigns);
        says("IllegalArgumentException if n is below 0 or above how many there are.", TextEdgesTest::badEnds);
        says("An object is used for at most 512 calls after it has been made", TextEdgesTest::mostCalls);
    }

    private static void emptyText() {
        due("put(0)", new Forge().put(0), 0);
        due("end(0)", ended(new Forge(), 0), 0);
        thrown("end(1)", ARGUMENT, () -> ended(new Forge(), 1));
        fault("", 1, 1);
        noLibrary("", 1, 1);
        due("line()", new Forge().line(), NONE);
    }

    private static void noNetlist() {
        Forge forge = new Forge();
        String[] calls = {"graph", "gate", "output", "value", "balance", "reduce", "rewrite", "diagram", "differ",
            "coverFew", "cover", "depth", "cell", "sign", "map", "mapped", "instance", "mappedSign"};
        for (String call : calls) {
            thrown(call + "(0, 0)", STATE, () -> forge.call(call, 0, 0));
            thrown(call + "(3, 0)", STATE, () -> forge.call(call, 3, 0));
            thrown(call + "(-1, -1)", STATE, () -> forge.call(call, -1, -1));
        }
        thrown("libraryCell(0, 0)", PLACE, () -> forge.libraryCell(0, 0));
        feed(forge, LEAST_TEXT);
        thrown("graph(0) of a text that was not read", STATE, () -> forge.graph(0));
    }

    private static void lowestByteFirst() {
        Forge forge = new Forge();
        feed(forge, ".inputs a b c d\n.outputs ");
        forge.put('d' | ' ' << 8 | 'a' << 16 | ' ' << 24);
        feed(forge, "\n.end");
        due("read()", forge.read(), 0);
        due("first output", forge.output(0), 8);
        due("second output", forge.output(1), 2);
    }

    private static void zeroIsLeftOut() {
        for (int places = 1; places < 16; places++) {
            Forge forge = new Forge();
            int at = 0;
            while (at < LEAST_TEXT.length()) {
                int signs = 0;
                for (int k = 0; k < 4; k++) {
                    boolean isUsed = (places >> k & 1) != 0 && at < LEAST_TEXT.length();
                    signs |= isUsed ? LEAST_TEXT.charAt(at) << 8 * k : 0;
                    at += isUsed ? 1 : 0;
                }
                due("put() at places " + places, forge.put(signs), at);
            }
            due("read() of what was put at places " + places, forge.read(), 0);
        }
    }

    private static void howMany() {
        Forge forge = new Forge();
        due("none", forge.put(0), 0);
        due("one", forge.put('x'), 1);
        due("two", forge.put('x' << 8 | 10 << 24), 3);
        due("three", forge.put('x' | 'y' << 16 | ' ' << 24), 6);
        due("four", forge.put(0x20202020), 10);
        due("none more", forge.put(0), 10);
    }

    private static void signs() {
        for (int sign = 0; sign < 256; sign++) {
            for (int place = 0; place < 4; place++) {
                Forge forge = new Forge();
                int signs = sign << 8 * place;
                if (sign == 0 || sign == 10 || sign >= 32 && sign <= 126) {
                    due("put() of " + sign + " at " + place, forge.put(signs), sign == 0 ? 0 : 1);
                } else {
                    thrown("put() of " + sign + " at " + place, ARGUMENT, () -> forge.put(signs));
                    due("put(0) behind " + sign, forge.put(0), 0);
                }
            }
        }
    }

    private static void badByteAmongGoodOnes() {
        int[] bad = {1, 9, 11, 13, 31, 127, 128, 255};
        for (int sign : bad) {
            for (int place = 0; place < 4; place++) {
                Forge forge = with(LEAST_TEXT);
                int signs = 0x78787878 & ~(255 << 8 * place) | sign << 8 * place;
                thrown("put() with " + sign + " at " + place, ARGUMENT, () -> forge.put(signs));
                due("put(0) behind it", forge.put(0), LEAST_TEXT.length());
                due("read() of what was there", forge.read(), 0);
            }
        }
        thrown("put(-1)", ARGUMENT, () -> new Forge().put(-1));
        thrown("put(MIN_VALUE)", ARGUMENT, () -> new Forge().put(LEAST));
        thrown("put(MAX_VALUE)", ARGUMENT, () -> new Forge().put(GREATEST));
    }

    private static void mostSigns() {
        int[] more = {0x20, 0x20002000, 0x20200020, 0x20202020};
        for (int n = 1; n <= 4; n++) {
            int signs = more[n - 1];
            due(n + " signs up to 1600", with(" ".repeat(1600 - n)).put(signs), 1600);
            Forge forge = with(" ".repeat(1601 - n));
            thrown(n + " signs up to 1601", TOO_GREAT, () -> forge.put(signs));
            due("put(0) behind it", forge.put(0), 1601 - n);
            thrown("once more", TOO_GREAT, () -> forge.put(signs));
        }
        Forge full = with(" ".repeat(1600));
        due("none more", full.put(0), 1600);
        thrown("one more", TOO_GREAT, () -> full.put('\n'));
        due("put(0) behind it", full.put(0), 1600);
        due("end(1596)", ended(full, 1596), 1596);
        due("there is room again", full.put(0x20202020), 1600);
    }

    private static void fullText() {
        Forge forge = with("\n".repeat(1600 - LEAST_TEXT.length()) + LEAST_TEXT);
        due("1600 signs", forge.put(0), 1600);
        due("read()", forge.read(), 0);
        due("without the last one", ended(forge, 1599), 1599);
        due("read() of .en", forge.read(), 1);
        due("its line", forge.line(), 1600 - LEAST_TEXT.length() + 2);
        fault("\n".repeat(1600), 1, 1601);
        noLibrary("\n".repeat(1600), 1, 1601);
        fault("#".repeat(1600), 1, 1);
        fault("x".repeat(1600), 1, 0);
        fault("x ".repeat(800), 1, 0);
        fault(".inputs" + " a".repeat(796), 1, 0);
        isLibrary("#".repeat(1580) + "\ncell a 1 1 10\n.end");
    }

    private static void badAndTooMany() {
        Forge full = with(" ".repeat(1600));
        thrown("a bad sign and one too many", ARGUMENT, () -> full.put('x' | 9 << 8));
        thrown("a sign too many and a bad one", ARGUMENT, () -> full.put(9 | 'x' << 8));
        thrown("a bad sign alone", ARGUMENT, () -> full.put(127));
        due("put(0) behind them", full.put(0), 1600);
    }

    private static void firstSigns() {
        Forge forge = with(".inputs a b\n.outputs b\n.end");
        due("end(9)", ended(forge, 9), 9);
        feed(forge, "\n.outputs a\n.end");
        due("read() of other signs behind the first ones", forge.read(), 0);
        due("inputs", forge.graph(0), 1);
        due("end(20)", ended(forge, 20), 20);
        due("read() without .end", forge.read(), 1);
        due("the graph stays", forge.graph(0), 1);
        due("end(0)", ended(forge, 0), 0);
        due("read() of nothing", forge.read(), 1);
        due("line() of nothing", forge.line(), 1);
    }

    private static void badEnds() {
        Forge forge = with("abcdefg");
        int[] bad = {-1, LEAST, 8, 9, 1600, GREATEST};
        for (int n : bad) {
            thrown("end(" + n + ")", ARGUMENT, () -> ended(forge, n));
            due("put(0) behind it", forge.put(0), 7);
        }
        due("all of them", ended(forge, 7), 7);
        due("one less", ended(forge, 6), 6);
        thrown("as many as there were", ARGUMENT, () -> ended(forge, 7));
        due("none", ended(forge, 0), 0);
        thrown("one of none", ARGUMENT, () -> ended(forge, 1));
        due("none of none", ended(forge, 0), 0);
        Forge full = with(" ".repeat(1600));
        thrown("end(1601)", ARGUMENT, () -> ended(full, 1601));
        due("end(1600)", ended(full, 1600), 1600);
    }

    private static void mostCalls() {
        Forge signs = new Forge();
        for (int n = 1; n <= 512; n++) {
            due("call " + n, signs.put('x'), n);
        }
        String text = " ".repeat(511 - LEAST_TEXT.length()) + LEAST_TEXT;
        Forge read = new Forge();
        for (int n = 1; n <= 511; n++) {
            read.put(text.charAt(n - 1));
        }
        due("read() as call 512", read.read(), 0);
        Forge lines = with("x");
        for (int n = 0; n < 509; n++) {
            due("read()", lines.read(), 1);
        }
        lines.end(0);
        due("line() as call 512", lines.line(), 0);
    }

    // ---- lines and words

    private static void lines() {
        says("line ends (10), which part LINES", TextEdgesTest::lineEnds);
        says("What is behind a # doesn't count", TextEdgesTest::behindHash);
        says("lines of blanks alone are passed over", TextEdgesTest::blankLines);
        says("WORDS, with blanks between, are all other signs", TextEdgesTest::words);
    }

    private static void lineEnds() {
        fault(".inputs a .outputs a .end", 1, 0);
        fault(".inputs a\n.outputs a .end", 1, 1);
        fault(".inputs\na\n.outputs a\n.end", 1, 0);
        fault(".inputs a\n.outputs a\n.en\nd", 1, 2);
        fault(HEAD + ".names a b y\n11\n1\n.end", 1, 3);
        taken(LEAST_TEXT);
        taken(LEAST_TEXT + "\n");
    }

    private static void behindHash() {
        Forge forge = done("#\n.inputs a#b c\n.outputs a # y\n#.names ! ! !\n.end#.end\n# .end");
        due("inputs", forge.graph(0), 1);
        due("outputs", forge.graph(1), 1);
        due("a row's end", done(".inputs a\n.outputs y\n.names a y\n1 0#1\n.end").output(0), 3);
        taken(".inputs a # b c d e f g h i j k l\n.outputs a ## !\n.end # #");
        fault(".inputs # a\n.outputs a\n.end", 1, 0);
        fault(".inp#uts a\n.outputs a\n.end", 1, 0);
        fault("#.inputs a\n.outputs a\n.end", 1, 1);
        fault(".inputs a\n.outputs a\n#.end", 1, 3);
        fault(".inputs a\n.outputs a\n.end\n.end # x", 1, 3);
        fault(HEAD + ".names a b y\n11 #1\n.end", 1, 3);
        due("a library's table", isLibrary("cell a 1 2 10#01\n.end").libraryCell(0, 2), 1);
        noLibrary("#cell a 1 2 10\n.end", 1, 1);
    }

    private static void blankLines() {
        String[] parts = {".inputs a b", ".outputs y", ".names a b y", "10 1", "01 1", ".end", ""};
        String[] blank = {"", " ", "     ", "#", "  # 10 1", "# .end"};
        for (String line : blank) {
            for (int before = 0; before < parts.length; before++) {
                StringBuilder text = new StringBuilder();
                for (int k = 0; k < parts.length; k++) {
                    text.append(k == before ? line + "\n" : "").append(parts[k]).append(k < 6 ? "\n" : "");
                }
                values(done(text.toString()), 0, 1, 1, 0);
            }
            isLibrary(line + "\ncell a 1 1 10\n" + line + "\ncell b 1 1 10\n" + line + "\n.end\n" + line);
        }
    }

    private static void words() {
        Forge forge = done("   .inputs    a   b  \n .outputs  y\n  .names a    b  y   \n   10     1   \n 01 1\n"
                + "   .end   ");
        values(forge, 0, 1, 1, 0);
        fault(".inputsa\n.outputs a\n.end", 1, 0);
        fault(".inputs a\n.outputs a\n. end", 1, 2);
        fault(HEAD + ".names a b y\n111\n.end", 1, 3);
        fault(HEAD + ".names a b y\n1 1 1\n.end", 1, 3);
        fault(HEAD + ".names a,b y\n1 1\n.end", 1, 2);
        fault("~ a\n.outputs a\n.end", 1, 0);
    }

    // ---- the lines of a text

    private static void headLines() {
        says("The first line is .inputs", TextEdgesTest::firstLine);
        says(".inputs and one to eight names", TextEdgesTest::inputNames);
        says("the next one .outputs", TextEdgesTest::secondLine);
        says(".outputs and one to six names", TextEdgesTest::outputNames);
        says("then come TABLES, none or some", TextEdgesTest::noTables);
        says("the last one is .end alone", TextEdgesTest::endAlone);
        says("no other line comes behind it", TextEdgesTest::behindEnd);
    }

    private static void firstLine() {
        String[] others = {".outputs a", ".names a", ".end", "1 1", "1", "a", "inputs a", ".input a", ".inputss a",
            ".Inputs a", ".INPUTS a", "..inputs a"};
        for (String line : others) {
            fault(line + "\n.outputs a\n.end", 1, 0);
            fault("\n# x\n" + line + "\n.inputs a\n.outputs a\n.end", 1, 2);
        }
    }

    private static void inputNames() {
        fault(".inputs\n.outputs a\n.end", 1, 0);
        due("one", done(LEAST_TEXT).graph(0), 1);
        Forge eight = done(".inputs a b c d e f g h\n.outputs h a\n.end");
        due("eight", eight.graph(0), 8);
        due("the last one", eight.output(0), 16);
        fault(".inputs a b c d e f g h i\n.outputs a\n.end", 1, 0);
        fault(".inputs a b c d e f g h i j\n.outputs a\n.end", 1, 0);
        fault(".inputs a b c d e f g h i j k\n.outputs a\n.end", 1, 0);
    }

    private static void secondLine() {
        String[] others = {".inputs a", ".names y", ".end", "1 1", "a", ".output a", ".outputss a", ".Outputs a"};
        for (String line : others) {
            fault(".inputs a\n" + line + "\n.outputs a\n.end", 1, 1);
        }
        fault(".inputs a\n\n.end", 1, 2);
    }

    private static void outputNames() {
        String inputs = ".inputs a b c d e f g h\n";
        fault(inputs + ".outputs\n.end", 1, 1);
        due("one", done(inputs + ".outputs h\n.end").graph(1), 1);
        Forge six = done(inputs + ".outputs a b c d e f\n.end");
        due("six", six.graph(1), 6);
        due("the last one", six.output(5), 12);
        fault(inputs + ".outputs a b c d e f g\n.end", 1, 1);
        fault(inputs + ".outputs a b c d e f g h i\n.end", 1, 1);
    }

    private static void noTables() {
        due("none", done(LEAST_TEXT).graph(2), 0);
        taken(HEAD + ".names y\n.end");
        taken(HEAD + ".names y\n.names z\n.end");
        fault(".inputs a\n.outputs a\n1 1\n.end", 1, 2);
        fault(".inputs a\n.outputs a\n1\n.end", 1, 2);
        fault(".inputs a\n.outputs a\n.name y\n.end", 1, 2);
        fault(".inputs a\n.outputs a\n.Names y\n.end", 1, 2);
        fault(".inputs a\n.outputs a\n.inputs b\n.end", 1, 2);
        fault(".inputs a\n.outputs a\n.outputs a\n.end", 1, 2);
        fault(HEAD + ".names y\n.outputs y\n.end", 1, 3);
        fault(HEAD + ".names y\n.inputs c\n.end", 1, 3);
    }

    private static void endAlone() {
        fault(".inputs a\n.outputs a", 1, 2);
        fault(".inputs a\n.outputs a\n", 1, 3);
        fault(HEAD + ".names y", 1, 3);
        fault(HEAD + ".names y\n1\n", 1, 5);
        fault(".inputs a\n.outputs a\n.end a", 1, 2);
        fault(".inputs a\n.outputs a\n.end .end", 1, 2);
        fault(".inputs a\n.outputs a\n.END", 1, 2);
        fault(".inputs a\n.outputs a\n.en", 1, 2);
        fault(".inputs a\n.outputs a\n.ends", 1, 2);
        fault(".inputs a\n.outputs a\nend", 1, 2);
        fault(".inputs a\n.end", 1, 1);
        fault(".end", 1, 0);
    }

    private static void behindEnd() {
        String[] others = {".end", ".inputs a", ".outputs a", ".names y", "1 1", "x"};
        for (String line : others) {
            fault(LEAST_TEXT + "\n" + line, 1, 3);
            fault(LEAST_TEXT + "\n\n  # x\n" + line + "\n", 1, 5);
        }
        fault(HEAD + ".names y\n.end\n1", 1, 4);
        taken(LEAST_TEXT + "\n\n   \n# x\n");
    }

    // ---- tables and rows

    private static void tables() {
        says("A table is a line .names and one to six names", TextEdgesTest::tableNames);
        says("the last one what it gives, the others its inputs", TextEdgesTest::lastNameIsGiven);
        says("then its ROWS, none to sixteen lines", TextEdgesTest::mostRows);
        says("a word of as many 0, 1 and - as the table has inputs", TextEdgesTest::rowWidths);
        says("(without inputs this word is missing)", TextEdgesTest::rowsWithoutInputs);
        says("then 1 or 0", TextEdgesTest::rowEnds);
        says("the same in all rows of a table", TextEdgesTest::sameEnds);
        says("There are at most 30 tables.", TextEdgesTest::mostTables);
    }

    private static void tableNames() {
        fault(HEAD + ".names\n.end", 1, 2);
        taken(HEAD + ".names y\n.end");
        taken(HEAD + ".names a y\n.end");
        taken(HEAD + ".names a b a b a y\n.end");
        fault(HEAD + ".names a b a b a b y\n.end", 1, 2);
        fault(HEAD + ".names a b a b a b a b y\n.end", 1, 2);
        fault(HEAD + ".names a b a b a b a b a y\n.end", 1, 2);
        fault(HEAD + ".names a b a b a b a b a b y\n.end", 1, 2);
    }

    private static void lastNameIsGiven() {
        fault(".inputs a\n.outputs y\n.names y a\n1 1\n.end", 2, 2);
        due("one name", done(HEAD + ".names y\n1\n.end").output(0), 1);
        due("five inputs, the first one", done(HEAD + ".names a b b b b y\n1---- 1\n.end").output(0), 2);
        due("five inputs, the last one", done(HEAD + ".names b b b b a y\n----1 1\n.end").output(0), 2);
    }

    private static void mostRows() {
        String table = HEAD + ".names a b y\n";
        due("none", done(table + ".end").output(0), 0);
        due("one", done(table + "1- 1\n.end").output(0), 2);
        taken(table + "11 1\n".repeat(16) + ".end");
        fault(table + "11 1\n".repeat(17) + ".end", 1, 19);
        fault(table + "11 1\n".repeat(16) + "\n\n11 1\n.end", 1, 21);
        fault(table + "11 1\n".repeat(16) + "x\n.end", 1, 19);
        taken(table + "11 1\n".repeat(16) + ".names z\n" + "1\n".repeat(16) + ".end");
        fault(table + "11 1\n".repeat(16) + ".names z\n" + "1\n".repeat(17) + ".end", 1, 36);
        due("the sixteenth counts", done(table + "00 1\n".repeat(15) + "1- 1\n.end").value(3), 1);
    }

    private static void rowWidths() {
        String[] inputs = {"", "a ", "a b ", "a b a ", "a b a b ", "a b a b a "};
        for (int width = 1; width <= 5; width++) {
            String table = HEAD + ".names " + inputs[width] + "y\n";
            for (String sign : new String[] {"0", "1", "-"}) {
                taken(table + sign.repeat(width) + " 1\n.end");
                fault(table + sign.repeat(width + 1) + " 1\n.end", 1, 3);
                fault(table + sign.repeat(width - 1) + " 1\n.end", 1, 3);
            }
            for (char sign : "2/.,+xX_~!".toCharArray()) {
                fault(table + "1".repeat(width - 1) + sign + " 1\n.end", 1, 3);
                fault(table + sign + "1".repeat(width - 1) + " 1\n.end", 1, 3);
            }
        }
    }

    private static void rowsWithoutInputs() {
        String table = HEAD + ".names y\n";
        due("1", done(table + "1\n.end").output(0), 1);
        due("0", done(table + "0\n.end").output(0), 0);
        due("no row", done(table + ".end").output(0), 0);
        fault(table + "1 1\n.end", 1, 3);
        fault(table + "- 1\n.end", 1, 3);
        fault(table + "-\n.end", 1, 3);
        fault(table + "11\n.end", 1, 3);
        fault(HEAD + ".names a y\n1\n.end", 1, 3);
    }

    private static void rowEnds() {
        String table = HEAD + ".names a b y\n";
        taken(table + "11 1\n.end");
        taken(table + "11 0\n.end");
        String[] bad = {"11 -", "11 2", "11 /", "11 11", "11 00", "11 01", "11", "11 1 1", "11 x", "1 11"};
        for (String row : bad) {
            fault(table + row + "\n.end", 1, 3);
            fault(table + "00 1\n" + row + "\n.end", 1, 4);
        }
    }

    private static void sameEnds() {
        String table = HEAD + ".names a b y\n";
        taken(table + "11 0\n00 0\n10 0\n.end");
        fault(table + "11 0\n00 0\n10 1\n.end", 1, 5);
        fault(table + "11 1\n00 0\n10 0\n.end", 1, 4);
        fault(HEAD + ".names y\n1\n0\n.end", 1, 4);
        fault(HEAD + ".names y\n0\n1\n.end", 1, 4);
        taken(table + "11 0\n.names a b z\n11 1\n.names w\n0\n.end");
    }

    private static void mostTables() {
        String text = LEAST_TEXT.substring(0, 21) + manyTables(30);
        taken(text + ".end");
        taken(text + "1\n.end");
        fault(text + ".names z\n.end", 1, 32);
        fault(text + "1\n.names z\n.end", 1, 33);
        fault(text + "# x\n.names t0\n.end", 1, 33);
        fault(text + ".names a\n.end", 1, 32);
        fault(text + ".names\n.end", 1, 32);
        taken(LEAST_TEXT.substring(0, 21) + manyTables(29) + ".end");
    }

    private static String manyTables(int count) {
        StringBuilder text = new StringBuilder();
        for (int t = 0; t < count; t++) {
            text.append(".names t").append(t).append('\n');
        }
        return text.toString();
    }

    // ---- names

    private static void names() {
        says("A NAME is one to eight letters", TextEdgesTest::nameLengths);
        says("letters (a .. z and A .. Z, which are unlike), digits and _", TextEdgesTest::nameSigns);
        says("which are unlike", TextEdgesTest::bigAndSmall);
    }

    /** The name at each place where one can stand, and the line of it. */
    private static void named(String name, boolean isName) {
        int kind = isName ? 0 : 1;
        fault(".inputs " + name + "\n.outputs " + name + "\n.end", kind, isName ? NONE : 0);
        fault(".inputs qq " + name + "\n.outputs qq\n.end", kind, isName ? NONE : 0);
        fault(".inputs qq\n.outputs " + name + "\n.names " + name + "\n.end", kind, isName ? NONE : 1);
        fault(".inputs qq\n.outputs qq\n.names " + name + "\n.end", kind, isName ? NONE : 2);
        fault(".inputs qq\n.outputs qq\n.names qq " + name + "\n.end", kind, isName ? NONE : 2);
        fault(".inputs qq\n.outputs qq\n.names " + name + " rr\n.names ss\n.end", isName ? 3 : 1, 2);
        Forge forge = with("cell " + name + " 1 1 10\n.end");
        due("library() with the cell " + name, forge.library(), kind);
    }

    private static void nameLengths() {
        named("x", true);
        named("abcdefgh", true);
        named("ABCDEFGH", true);
        named("12345678", true);
        named("________", true);
        named("abcdefghi", false);
        named("123456789", false);
        named("x".repeat(16), false);
        named("x".repeat(64), false);
        Forge forge = done(".inputs abcdefgh abcdefgi\n.outputs abcdefgi\n.end");
        due("the eighth sign counts", forge.output(0), 4);
        due("a name and its beginning", done(".inputs ab a\n.outputs a\n.end").output(0), 4);
        due("a name and its end", done(".inputs ab b\n.outputs b\n.end").output(0), 4);
    }

    private static void nameSigns() {
        for (char sign = 33; sign <= 126; sign++) {
            if (sign == '#') {
                continue;
            }
            boolean isName = sign >= 'a' && sign <= 'z' || sign >= 'A' && sign <= 'Z' || sign >= '0' && sign <= '9'
                    || sign == '_';
            named("" + sign, isName);
            named("x" + sign, isName);
            named(sign + "xxxxxx" + sign, isName);
        }
    }

    private static void bigAndSmall() {
        taken(".inputs a A\n.outputs A a\n.end");
        due("A", done(".inputs a A\n.outputs A\n.end").output(0), 4);
        fault(".inputs a\n.outputs A\n.end", 3, 1);
        fault(".inputs z\n.outputs z\n.names Z y\n.end", 3, 2);
        isLibrary("cell a 1 1 10\ncell A 1 1 10\n.end");
    }

    // ---- what tables give

    private static void rowsAreMet() {
        says("A row is MET if all inputs are as it says (- is both).", TextEdgesTest::met);
        says("A table whose rows end with 1 gives 1 if a row is met", TextEdgesTest::endingWithOne);
        says("one whose rows end with 0 gives 0 if a row is met, 1 otherwise", TextEdgesTest::endingWithZero);
        says("one without rows gives 0", TextEdgesTest::withoutRows);
    }

    private static void met() {
        String head = ".inputs a b c\n.outputs y\n.names a b c y\n";
        values(done(head + "1-0 1\n.end"), 0, 1, 0, 1, 0, 0, 0, 0);
        values(done(head + "--- 1\n.end"), 1, 1, 1, 1, 1, 1, 1, 1);
        values(done(head + "000 1\n.end"), 1, 0, 0, 0, 0, 0, 0, 0);
        values(done(head + "111 1\n.end"), 0, 0, 0, 0, 0, 0, 0, 1);
        values(done(head + "--1 1\n.end"), 0, 0, 0, 0, 1, 1, 1, 1);
    }

    private static void endingWithOne() {
        String head = ".inputs a b\n.outputs y\n.names a b y\n";
        values(done(head + "10 1\n01 1\n.end"), 0, 1, 1, 0);
        values(done(head + "11 1\n11 1\n.end"), 0, 0, 0, 1);
        values(done(head + "1- 1\n-1 1\n00 1\n.end"), 1, 1, 1, 1);
        values(done(".inputs a b\n.outputs y\n.names y\n1\n1\n.end"), 1, 1, 1, 1);
    }

    private static void endingWithZero() {
        String head = ".inputs a b\n.outputs y\n.names a b y\n";
        values(done(head + "10 0\n01 0\n.end"), 1, 0, 0, 1);
        values(done(head + "11 0\n.end"), 1, 1, 1, 0);
        values(done(head + "-- 0\n.end"), 0, 0, 0, 0);
        values(done(".inputs a b\n.outputs y\n.names y\n0\n0\n.end"), 0, 0, 0, 0);
    }

    private static void withoutRows() {
        values(done(".inputs a\n.outputs y\n.names y\n.end"), 0, 0);
        values(done(".inputs a\n.outputs y\n.names a y\n.end"), 0, 0);
        values(done(".inputs a\n.outputs y z\n.names y\n.names y z\n0 1\n.end"), 2, 2);
    }

    // ---- faults

    private static void faultLines() {
        says("a kind at a line (from 0 on, all lines counted", TextEdgesTest::allLinesCount);
        says("behind a line end there is one more, perhaps without signs", TextEdgesTest::lineBehindLineEnd);
        says("the end of the text is a line behind the last one", TextEdgesTest::endOfText);
    }

    private static void allLinesCount() {
        fault("x", 1, 0);
        fault("\nx", 1, 1);
        fault("   \n# a\n\nx", 1, 3);
        fault("\n.inputs a\n\n.outputs a\n#\nx\n", 1, 5);
        fault("\n.inputs a\n \n.outputs a\n\n.names a\n.end", 2, 5);
        fault("#\n.inputs a\n#\n.outputs b\n\n.end", 3, 3);
        fault("#\n.inputs a\n#\n.outputs a\n\n.names b y\n1 1\n.end", 3, 5);
        fault("#\n.inputs a\n#\n.outputs a\n\n#\n.names y y\n\n.end", 4, 6);
    }

    private static void lineBehindLineEnd() {
        fault("\n", 1, 2);
        fault("\n\n", 1, 3);
        fault(" \n ", 1, 2);
        fault(".inputs a\n", 1, 2);
        fault(".inputs a\n.outputs a\n", 1, 3);
        noLibrary("cell a 1 1 10\n", 1, 2);
        noLibrary("\n", 1, 2);
    }

    private static void endOfText() {
        fault("", 1, 1);
        fault("#", 1, 1);
        fault("   ", 1, 1);
        fault(".inputs a", 1, 1);
        fault(".inputs a\n.outputs a", 1, 2);
        fault(HEAD + ".names a y\n1 1", 1, 4);
        noLibrary("", 1, 1);
        noLibrary("cell a 1 1 10", 1, 1);
    }

    private static void firstFaults() {
        says("the first line that 1 .. or 2 ..", TextEdgesTest::firstOfOneAndTwo);
        says("of a line 1 goes first", TextEdgesTest::oneGoesFirst);
        says("or is the 31st table or 17th row", TextEdgesTest::tableAndRowTooMany);
        says("2 gives (.inputs, .names) a name that was given before", TextEdgesTest::givenBefore);
        says("or has one twice itself (.inputs, .outputs", TextEdgesTest::hasTwice);
        says("inputs of a table may be twice", TextEdgesTest::tableInputsTwice);
    }

    private static void firstOfOneAndTwo() {
        fault(".inputs a a\nx", 2, 0);
        fault(".inputs a\n.outputs a a\n.names\n.end", 2, 1);
        fault(".inputs a\n.outputs a\n.names a\n.names\n.end", 2, 2);
        fault(".inputs a\n.outputs a\n.names\n.names a\n.end", 1, 2);
        fault(".inputs a\n.outputs a\n.names a\n.end\n.end", 2, 2);
        fault(".inputs a\n.outputs a\n.names a", 2, 2);
        fault(".inputs a\n.outputs a\n.names y\n2\n.names y\n.end", 1, 3);
        fault(".inputs a\n.outputs a\n.names a\n.names a\n.end", 2, 2);
    }

    private static void oneGoesFirst() {
        fault(".inputs a a !\n.outputs a\n.end", 1, 0);
        fault(".inputs a a b c d e f g h\n.outputs a\n.end", 1, 0);
        fault(".inputs a\n.outputs a a .\n.end", 1, 1);
        fault(".inputs a\n.outputs a a a a a a a\n.end", 1, 1);
        fault(".inputs a\n.outputs a\n.names ! a\n.end", 1, 2);
        fault(".inputs a\n.outputs a\n.names a a a a a a a\n.end", 1, 2);
        fault(".outputs a a\n.end", 1, 0);
        fault(".inputs a\n.inputs a\n.end", 1, 1);
        fault(".inputs a\n.outputs a\n.inputs a\n.end", 1, 2);
    }

    private static void tableAndRowTooMany() {
        String head = ".inputs a\n.outputs a\n";
        fault(head + manyTables(31) + ".end", 1, 32);
        fault(head + manyTables(30) + ".names a\n.end", 1, 32);
        fault(head + ".names y\n" + "1\n".repeat(17) + ".end", 1, 19);
        fault(head + ".names y\n" + "1\n".repeat(16) + ".names y\n.end", 2, 19);
    }

    private static void givenBefore() {
        fault(".inputs a\n.outputs a\n.names a\n.end", 2, 2);
        fault(".inputs a b c\n.outputs a\n.names a b c\n.end", 2, 2);
        fault(".inputs a\n.outputs y\n.names y\n.names a y\n.end", 2, 3);
        fault(".inputs a b c d e f g h\n.outputs a\n.names y\n.names z\n.names w\n.names z\n.end", 2, 5);
        fault(".inputs a b c d e f g h\n.outputs a\n.names h\n.end", 2, 2);
        taken(".inputs a\n.outputs a\n.names b\n.end");
        taken(".inputs a\n.outputs y\n.names y\n.end");
        taken(".inputs a\n.outputs y\n.names z y\n.names z\n.end");
    }

    private static void hasTwice() {
        fault(".inputs a a\n.outputs a\n.end", 2, 0);
        fault(".inputs a b c d e f g a\n.outputs a\n.end", 2, 0);
        fault(".inputs a b c d e f g g\n.outputs a\n.end", 2, 0);
        fault(".inputs a\n.outputs a a\n.end", 2, 1);
        fault(".inputs a b c d e\n.outputs a b c d e a\n.end", 2, 1);
        fault(".inputs a b c d e\n.outputs a b c d e e\n.end", 2, 1);
        fault(".inputs a\n.outputs q q\n.end", 2, 1);
    }

    private static void tableInputsTwice() {
        taken(HEAD + ".names a a y\n11 1\n.end");
        taken(HEAD + ".names a a a a a y\n11111 1\n.end");
        fault(".inputs a\n.outputs a\n.names y y\n.end", 4, 2);
        fault(".inputs a\n.outputs a\n.names a a\n.end", 2, 2);
    }

    private static void laterFaults() {
        says("If there is none: 3", TextEdgesTest::threeComesLater);
        says("3 the first line that uses (.outputs, .names) a name that nothing gives", TextEdgesTest::nothingGives);
        says("then 4", TextEdgesTest::fourComesLast);
        says("the first table of the text from which one comes back to it", TextEdgesTest::firstOfRing);
        says("going from tables to those that give their inputs", TextEdgesTest::ringsWithoutRows);
        says("(also one that no output needs)", TextEdgesTest::unneededRing);
    }

    private static void threeComesLater() {
        fault(".inputs a\n.outputs q\n.end\nx", 1, 3);
        fault(".inputs a\n.outputs q\n", 1, 3);
        fault(".inputs a\n.outputs q\n.names a\n.end", 2, 2);
        fault(".inputs a\n.outputs a\n.names q y\n.names y\n.end", 2, 3);
        fault(".inputs a\n.outputs q\n.names y\n2\n.end", 1, 3);
        fault(".inputs a\n.outputs q\n.end", 3, 1);
    }

    private static void nothingGives() {
        fault(".inputs a\n.outputs a q\n.names r y\n.end", 3, 1);
        fault(".inputs a\n.outputs a\n.names a y\n.names a r z\n.names q w\n.end", 3, 3);
        fault(".inputs a\n.outputs a\n.names a a a a r y\n.end", 3, 2);
        fault(".inputs a\n.outputs a\n.names r a a a a y\n.end", 3, 2);
        taken(".inputs a\n.outputs y\n.names z y\n.names w z\n.names w\n.end");
        taken(".inputs a\n.outputs a\n.names y\n.end");
        fault(".inputs a b\n.outputs y z\n.names y\n.end", 3, 1);
    }

    private static void fourComesLast() {
        fault(".inputs a\n.outputs a\n.names y y\n.names q z\n.end", 3, 3);
        fault(".inputs a\n.outputs q\n.names y y\n.end", 3, 1);
        fault(".inputs a\n.outputs a\n.names y y\n.names y\n.end", 2, 3);
        fault(".inputs a\n.outputs a\n.names y y\n.end\n1", 1, 4);
        fault(".inputs a\n.outputs a\n.names y y\n.end", 4, 2);
    }

    private static void firstOfRing() {
        fault(".inputs a\n.outputs u\n.names v u\n.names w v\n.names v w\n.end", 4, 3);
        fault(".inputs a\n.outputs u\n.names w v\n.names v w\n.names v u\n.end", 4, 2);
        fault(".inputs a\n.outputs u\n.names a u\n.names u v\n.names v w w\n.end", 4, 4);
        fault(".inputs a\n.outputs u\n.names a u\n.names u v\n.names x u w\n.names w x\n.end", 4, 4);
        fault(".inputs a\n.outputs a\n.names p q\n.names q p\n.names r s\n.names s r\n.end", 4, 2);
        StringBuilder ring = new StringBuilder(".inputs a\n.outputs a\n.names a x\n");
        for (int t = 0; t < 29; t++) {
            ring.append(".names t").append((t + 1) % 29).append(" t").append(t).append("\n");
        }
        fault(ring + ".end", 4, 3);
        taken(ring.toString().replace(".names t0 t28", ".names x t28") + ".end");
        fault(".inputs a\n.outputs a\n.names q p\n.names r q\n.names s r\n.names r s\n.end", 4, 4);
    }

    private static void ringsWithoutRows() {
        fault(".inputs a\n.outputs y\n.names y y\n.end", 4, 2);
        fault(".inputs a\n.outputs y\n.names a y y\n1- 1\n.end", 4, 2);
        fault(".inputs a\n.outputs y\n.names a a a a z y\n1---- 1\n.names y z\n- 1\n.end", 4, 2);
        fault(".inputs a\n.outputs y\n.names z a y\n-1 1\n.names y z\n.end", 4, 2);
    }

    private static void unneededRing() {
        fault(".inputs a\n.outputs a\n.names y y\n1 1\n.end", 4, 2);
        fault(".inputs a\n.outputs y\n.names a y\n1 1\n.names u v\n.names v u\n.end", 4, 4);
    }

    // ---- promises 4 and 5

    private static void readAndLine() {
        says("Reads the text: 0, and its graph is built", TextEdgesTest::graphIsBuilt);
        says("without a cover", TextEdgesTest::withoutCover);
        says("or its fault's kind (all stays)", TextEdgesTest::allStays);
        says("UnsupportedOperationException if it is too great. (read)", TextEdgesTest::tooGreat);
        says("The text stays when it is read.", TextEdgesTest::textStays);
        says("The line of the fault that the latest read() or library() found", TextEdgesTest::latestLine);
        says("that didn't throw", TextEdgesTest::lineBehindThrow);
        says("NONE if it found none, or there was none", TextEdgesTest::noLine);
    }

    private static void graphIsBuilt() {
        Forge forge = done(XOR);
        values(forge, 0, 1, 1, 0);
        anew(forge, ".inputs a b\n.outputs y\n.names a b y\n11 1\n.end");
        values(forge, 0, 1, 1, 0);
        due("read() of another", forge.read(), 0);
        values(forge, 0, 0, 0, 1);
        due("gates", forge.graph(2), 1);
        anew(forge, LEAST_TEXT);
        due("read() of fewer inputs", forge.read(), 0);
        due("inputs", forge.graph(0), 1);
        thrown("value(2)", ARGUMENT, () -> forge.value(2));
        thrown("gate(3, 0)", PLACE, () -> forge.gate(3, 0));
    }

    private static void withoutCover() {
        Forge forge = kit(done(XOR), NANDS);
        anew(forge, XOR);
        forge.cover(3);
        forge.map();
        due("read() of the same", forge.read(), 0);
        thrown("depth()", STATE, () -> forge.depth());
        thrown("cell(0, 0)", STATE, () -> forge.cell(0, 0));
        thrown("sign(0)", STATE, () -> forge.sign(0));
        thrown("mapped(0)", STATE, () -> forge.mapped(0));
        due("the library stays", forge.libraryCell(1, 0), 2);
        due("map() again", forge.map(), 5);
    }

    private static void allStays() {
        String[] faulty = {"", ".inputs a", ".inputs a a", ".inputs a b c\n.outputs q\n.names a b c\n.end",
            ".inputs a b c\n.outputs q\n.end", ".inputs a b c d e f g h\n.outputs h g f\n.names y y\n11 1\n.end",
            ".inputs a b c d e f g h\n.outputs h g f\n.names y y\n1 1\n.end"};
        int[] kinds = {1, 1, 2, 2, 3, 1, 4};
        for (int k = 0; k < faulty.length; k++) {
            Forge forge = mappedBy(XOR, NANDS);
            forge.cover(2);
            anew(forge, faulty[k]);
            Forge before = forge.copy();
            due("read() of <<" + faulty[k] + ">>", forge.read(), kinds[k]);
            same("behind the fault", allButLine(forge), allButLine(before));
            due("the cover stays", forge.depth(), 1);
            due("the mapping stays", forge.mapped(0), 5);
        }
    }

    private static void tooGreat() {
        due("200 gates", done(ofGates(200)).graph(2), 200);
        Forge forge = with(ofGates(201));
        thrown("201 gates", TOO_GREAT, () -> forge.read());
        thrown("graph(0) behind it", STATE, () -> forge.graph(0));
        thrown("201 gates that no output needs", TOO_GREAT, () -> with(unneeded(ofGates(201))).read());
        due("200 gates that no output needs", done(unneeded(ofGates(200))).graph(2), 200);
    }

    private static void textStays() {
        Forge forge = done(XOR);
        due("as many signs", forge.put(0), XOR.length());
        due("read() again", forge.read(), 0);
        due("library() of it", forge.library(), 1);
        due("as many signs", forge.put(0), XOR.length());
        due("read() once more", forge.read(), 0);
        feed(forge, "x");
        due("read() with a sign more", forge.read(), 1);
        due("its line", forge.line(), 6);
        due("as many signs and one", forge.put(0), XOR.length() + 1);
        Forge kit = isLibrary(NANDS);
        due("as many signs", kit.put(0), NANDS.length());
        due("library() again", kit.library(), 0);
        Forge great = with(ofGates(201));
        thrown("read()", TOO_GREAT, () -> great.read());
        due("as many signs", great.put(0), ofGates(201).length());
    }

    private static void latestLine() {
        Forge forge = with("\n\nx");
        due("read()", forge.read(), 1);
        due("its line", forge.line(), 2);
        anew(forge, "cell a 1 1 10\ncell a 1 1 10\n.end");
        due("line() before library()", forge.line(), 2);
        due("library()", forge.library(), 2);
        due("its line", forge.line(), 1);
        due("line() again", forge.line(), 1);
        due("read() of it", forge.read(), 1);
        due("its line", forge.line(), 0);
        anew(forge, "\n".repeat(700));
        due("library()", forge.library(), 1);
        due("its line", forge.line(), 701);
        anew(forge, XOR);
        due("read()", forge.read(), 0);
        due("no line", forge.line(), NONE);
        due("library() of it", forge.library(), 1);
        due("its line", forge.line(), 0);
        forge.balance();
        forge.reduce();
        forge.rewrite();
        forge.cover(2);
        due("other calls leave it", forge.line(), 0);
        anew(forge, NANDS);
        due("library()", forge.library(), 0);
        due("no line", forge.line(), NONE);
        due("read() of it", forge.read(), 1);
        due("its line", forge.line(), 0);
        forge.map();
        due("map() leaves it", forge.line(), 0);
    }

    private static void lineBehindThrow() {
        String great = ofGates(201);
        Forge forge = with(great.substring(0, 12));
        due("read() of the first line", forge.read(), 1);
        due("its line", forge.line(), 2);
        feed(forge, great.substring(12));
        thrown("read()", TOO_GREAT, () -> forge.read());
        due("the earlier line", forge.line(), 2);
        Forge fresh = with(great);
        thrown("read()", TOO_GREAT, () -> fresh.read());
        due("no line was there", fresh.line(), NONE);
    }

    private static void noLine() {
        Forge forge = new Forge();
        due("there was no read()", forge.line(), NONE);
        feed(forge, "x");
        due("nor now", forge.line(), NONE);
        due("read()", forge.read(), 1);
        due("a fault in line 0", forge.line(), 0);
        anew(forge, LEAST_TEXT);
        due("read()", forge.read(), 0);
        due("no fault", forge.line(), NONE);
        anew(forge, "cell a 1 1 10\n.end");
        due("library()", forge.library(), 0);
        due("no fault", forge.line(), NONE);
    }
}
