/** A call of the face by its name, on an object of the class or on Oracle. */
final class Calls {
    private Calls() {
    }

    static int of(CellForge object, String name, int a, int b) {
        switch (name) {
            case "put": return object.put(a);
            case "end": object.end(a); return 0;
            case "read": return object.read();
            case "line": return object.line();
            case "graph": return object.graph(a);
            case "gate": return object.gate(a, b);
            case "output": return object.output(a);
            case "value": return object.value(a);
            case "balance": return object.balance();
            case "reduce": return object.reduce();
            case "rewrite": return object.rewrite();
            case "diagram": return object.diagram(a, b);
            case "differ": return object.differ(a, b);
            case "coverFew": return object.coverFew(a);
            case "cover": return object.cover(a);
            case "depth": return object.depth();
            case "cell": return object.cell(a, b);
            case "sign": return object.sign(a);
            case "library": return object.library();
            case "libraryCell": return object.libraryCell(a, b);
            case "map": return object.map();
            case "mapped": return object.mapped(a);
            case "instance": return object.instance(a, b);
            case "mappedSign": return object.mappedSign(a);
            default: throw new AssertionError("no such call: " + name);
        }
    }

    static int of(Oracle oracle, String name, int a, int b) {
        switch (name) {
            case "put": return oracle.put(a);
            case "end": return oracle.end(a);
            case "read": return oracle.read();
            case "line": return oracle.line();
            case "graph": return oracle.graph(a);
            case "gate": return oracle.gate(a, b);
            case "output": return oracle.output(a);
            case "value": return oracle.value(a);
            case "balance": return oracle.balance();
            case "reduce": return oracle.reduce();
            case "rewrite": return oracle.rewrite();
            case "diagram": return oracle.diagram(a, b);
            case "differ": return oracle.differ(a, b);
            case "coverFew": return oracle.coverFew(a);
            case "cover": return oracle.cover(a);
            case "depth": return oracle.depth();
            case "cell": return oracle.cell(a, b);
            case "sign": return oracle.sign(a);
            case "library": return oracle.library();
            case "libraryCell": return oracle.libraryCell(a, b);
            case "map": return oracle.map();
            case "mapped": return oracle.mapped(a);
            case "instance": return oracle.instance(a, b);
            case "mappedSign": return oracle.mappedSign(a);
            default: throw new AssertionError("no such call: " + name);
        }
    }
}
