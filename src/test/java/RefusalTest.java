/**
 * Each call that the document says is refused: for every combination of its errors the answer is the
 * one that is listed first, and the call changes nothing.
 */
public final class RefusalTest {
    private static final int MIN = Integer.MIN_VALUE;
    private static final int MAX = Integer.MAX_VALUE;
    private static final Checks checks = new Checks("RefusalTest");
    private static final Twins twins = new Twins(checks);

    /** A state with the numbers that decide which calls it refuses. */
    private record Start(String name, Twins.State state, int types, int constructors, int nodes, int rows,
            boolean isFull) {
        boolean lacksType(int type) {
            return type < 0 || type >= types;
        }

        boolean lacksConstructor(int constructor) {
            return constructor < 0 || constructor >= constructors;
        }

        boolean lacksNode(int node) {
            return node < 0 || node >= nodes;
        }
    }

    private static final Start FRESH = new Start("fresh", States::fresh, 0, 0, 0, 0, false);
    private static final Start WORKED =
            new Start("worked", States::worked, 3, 6, States.WORKED_NODES, 3, false);
    private static final Start FULL = new Start("full", States::full, 4, 12, 100, 8, true);
    private static final Start[] STARTS = {FRESH, WORKED, FULL};

    public static void main(String[] args) {
        for (Start start : STARTS) {
            startIsAsSaid(start);
            addTypeAndPush(start);
            addConstructor(start);
            readConstructors(start);
            readTypes(start);
            value(start);
            variable(start);
            readNodes(start);
            pairsOfNodes(start);
            addRow(start);
            firstMatch(start);
            coverage(start);
        }
        pop();
        term(WORKED);
        term(FULL);
        termOfNewObject();
        failedUnification(WORKED);
        failedUnification(FULL);
        checks.end();
    }

    /** The first error in the list that applies; 0 if none does. */
    private static int first(boolean applies1, int error1, boolean applies2, int error2, boolean applies3, int error3) {
        return applies1 ? error1 : applies2 ? error2 : applies3 ? error3 : 0;
    }

    private static int first(boolean applies1, int error1, boolean applies2, int error2) {
        return first(applies1, error1, applies2, error2, false, 0);
    }

    private static void refused(Start start, String call, int want, Twins.Call made) {
        if (want != 0) {
            twins.refused(start.name() + ": " + call, start.state(), made, want);
        }
    }

    private static int[] around(int limit) {
        return new int[] {MIN, -1, 0, limit - 1, limit, MAX};
    }

    private static void startIsAsSaid(Start start) {
        Counted x = start.state().make();
        checks.due(start.name() + ": nodes", x.nodeCount(), start.nodes());
        checks.holds(start.name() + ": types", x.cardinality(start.types()) == -1
                && (start.types() == 0 || x.cardinality(start.types() - 1) != -1));
        checks.holds(start.name() + ": constructors", x.arity(start.constructors()) == -2
                && (start.constructors() == 0 || x.arity(start.constructors() - 1) != -2));
        checks.due(start.name() + ": clearRows()", x.clearRows(), start.rows());
    }

    private static void addTypeAndPush(Start start) {
        if (start.isFull()) {
            refused(start, "addType()", -6, Counted::addType);
            refused(start, "push()", -6, Counted::push);
        }
    }

    private static void pop() {
        refused(FRESH, "pop()", -12, Counted::pop);
        Twins.State emptied = () -> {
            Counted x = States.worked();
            x.pop();
            x.pop();
            x.unify(States.FREE_FLAG, States.BOUND_FLAG);
            return x;
        };
        twins.refused("emptied: pop()", emptied, Counted::pop, -12);
    }

    private static void addConstructor(Start start) {
        int[] types = {-1, Math.max(0, start.types() - 1), start.types()};
        for (int type : types) {
            for (int a : types) {
                for (int b : types) {
                    for (int c : types) {
                        addConstructorOfEachArity(start, type, a, b, c);
                    }
                }
            }
        }
        addConstructorOfEachArity(start, MIN, 0, 0, 0);
        addConstructorOfEachArity(start, 0, MAX, MIN, MAX);
    }

    private static void addConstructorOfEachArity(Start start, int type, int a, int b, int c) {
        for (int arity : new int[] {MIN, -1, 0, 1, 2, 3, 4, MAX}) {
            boolean noType = start.lacksType(type)
                    || arity >= 1 && start.lacksType(a)
                    || arity >= 2 && start.lacksType(b)
                    || arity >= 3 && start.lacksType(c);
            int want = first(arity < 0 || arity > 3, -4, noType, -1, start.isFull(), -6);
            refused(start, "addConstructor(" + type + ", " + arity + ", " + a + ", " + b + ", " + c + ")", want,
                    x -> x.addConstructor(type, arity, a, b, c));
        }
    }

    private static void readConstructors(Start start) {
        for (int constructor : around(start.constructors())) {
            int want = start.lacksConstructor(constructor) ? -2 : 0;
            refused(start, "resultType(" + constructor + ")", want, x -> x.resultType(constructor));
            refused(start, "arity(" + constructor + ")", want, x -> x.arity(constructor));
            for (int k : around(4)) {
                if (want != 0) {
                    refused(start, "argumentType(" + constructor + ", " + k + ")", -2,
                            x -> x.argumentType(constructor, k));
                }
            }
        }
        for (int constructor = 0; constructor < start.constructors(); constructor++) {
            int number = constructor;
            int arity = start.state().make().arity(number);
            for (int k : new int[] {MIN, -1, arity, arity + 1, MAX}) {
                refused(start, "argumentType(" + number + ", " + k + ")", -13, x -> x.argumentType(number, k));
            }
        }
    }

    private static void readTypes(Start start) {
        for (int type : around(start.types())) {
            int want = start.lacksType(type) ? -1 : 0;
            refused(start, "cardinality(" + type + ")", want, x -> x.cardinality(type));
            refused(start, "smallestSize(" + type + ")", want, x -> x.smallestSize(type));
            for (int size : new int[] {MIN, -1, 0, 1, 12, 13, MAX}) {
                refused(start, "count(" + type + ", " + size + ")",
                        first(want != 0, -1, size < 1 || size > 12, -4), x -> x.count(type, size));
            }
        }
        if (start.types() > 2) {
            refused(start, "smallestSize of a type without values", -13, x -> x.smallestSize(2));
        }
    }

    private static void value(Start start) {
        for (int type : new int[] {MIN, -1, 0, 1, 2, start.types(), MAX}) {
            for (int size : new int[] {MIN, 0, 1, 3, 12, 13, MAX}) {
                int count = start.state().make().count(type, size);
                for (int index : new int[] {MIN, -1, 0, count - 1, count, MAX}) {
                    int unfit = first(start.lacksType(type), -1, size < 1 || size > 12, -4,
                            index < 0 || index >= count, -13);
                    refused(start, "value(" + type + ", " + size + ", " + index + ")",
                            first(unfit != 0, unfit, start.isFull(), -6), x -> x.value(type, size, index));
                }
            }
        }
    }

    private static void variable(Start start) {
        for (int type : around(start.types())) {
            refused(start, "variable(" + type + ")", first(start.lacksType(type), -1, start.isFull(), -6),
                    x -> x.variable(type));
        }
    }

    private static void termOfNewObject() {
        for (int constructor : new int[] {MIN, -1, 0, 1, MAX}) {
            refused(FRESH, "term(" + constructor + ", 0, 0, 0)", -2, x -> x.term(constructor, 0, 0, 0));
        }
        Twins.State noNodes = () -> {
            Counted x = new Counted();
            x.addType();
            x.addConstructor(0, 1, 0, 0, 0);
            return x;
        };
        twins.refused("a term can't be its own child", noNodes, x -> x.term(0, 0, 0, 0), -3);
        twins.refused("node -1", noNodes, x -> x.term(0, -1, 0, 0), -3);
    }

    private static void term(Start start) {
        int[] children = {-1, States.FLAG, States.EMPTY_LIST, start.nodes()};
        for (int constructor : new int[] {-1, States.LEAF, States.LOOP, States.CONS, States.TRIPLE,
            start.constructors()}) {
            for (int a : children) {
                for (int b : children) {
                    for (int c : children) {
                        term(start, constructor, a, b, c);
                    }
                }
            }
            term(start, constructor, MIN, MAX, MIN);
        }
    }

    private static void term(Start start, int constructor, int a, int b, int c) {
        Counted asked = start.state().make();
        int arity = asked.arity(constructor);
        int[] children = {a, b, c};
        boolean noNode = false;
        boolean wrongType = false;
        for (int k = 0; k < arity; k++) {
            noNode |= start.lacksNode(children[k]);
            wrongType |= asked.nodeType(children[k]) != asked.argumentType(constructor, k);
        }
        int want = start.lacksConstructor(constructor) ? -2
                : first(noNode, -3, wrongType, -5, start.isFull(), -6);
        refused(start, "term(" + constructor + ", " + a + ", " + b + ", " + c + ")", want,
                x -> x.term(constructor, a, b, c));
    }

    private static void readNodes(Start start) {
        for (int node : around(start.nodes())) {
            if (start.lacksNode(node)) {
                refused(start, "nodeType(" + node + ")", -3, x -> x.nodeType(node));
                refused(start, "head(" + node + ")", -3, x -> x.head(node));
                refused(start, "binding(" + node + ")", -3, x -> x.binding(node));
                refused(start, "size(" + node + ")", -3, x -> x.size(node));
                refused(start, "rank(" + node + ")", -3, x -> x.rank(node));
                for (int k : around(3)) {
                    refused(start, "child(" + node + ", " + k + ")", -3, x -> x.child(node, k));
                }
            }
        }
        if (start.nodes() > 0) {
            readNodesWithOtherErrors(start);
        }
    }

    private static void readNodesWithOtherErrors(Start start) {
        refused(start, "head of a free variable", -13, x -> x.head(States.FREE_LIST));
        refused(start, "binding of a free variable", -13, x -> x.binding(States.FREE_LIST));
        refused(start, "binding of a constructor node", -13, x -> x.binding(States.LISTED));
        refused(start, "size of a free variable", -9, x -> x.size(States.FREE_LIST));
        refused(start, "size with a free variable inside", -9, x -> x.size(States.CYCLES));
        refused(start, "rank with a free variable inside", -9, x -> x.rank(States.CYCLES));
        refused(start, "rank of a term that is too large", -10, x -> x.rank(States.LARGE));
        for (int k : new int[] {MIN, -1, 2, 3, MAX}) {
            refused(start, "child " + k + " of two", -13, x -> x.child(States.LISTED, k));
            refused(start, "child " + k + " of two, by a binding", -13, x -> x.child(States.BOUND_LIST, k));
        }
        for (int k : new int[] {MIN, -1, 0, MAX}) {
            refused(start, "child " + k + " of none", -13, x -> x.child(States.EMPTY_LIST, k));
            refused(start, "child " + k + " of a free variable", -13, x -> x.child(States.FREE_LIST, k));
        }
    }

    private static void pairsOfNodes(Start start) {
        for (int a : around(start.nodes())) {
            for (int b : around(start.nodes())) {
                int want = start.lacksNode(a) || start.lacksNode(b) ? -3 : 0;
                refused(start, "equal(" + a + ", " + b + ")", want, x -> x.equal(a, b));
                refused(start, "unify(" + a + ", " + b + ")", want, x -> x.unify(a, b));
            }
        }
        if (start.nodes() > 0) {
            int[] kinds = {States.FREE_FLAG, States.BOUND_FLAG, States.FLAG, States.FREE_LIST,
                States.BOUND_LIST, States.LISTED, States.VOID};
            for (int a : kinds) {
                for (int b : kinds) {
                    Counted asked = start.state().make();
                    refused(start, "unify(" + a + ", " + b + ")",
                            asked.nodeType(a) != asked.nodeType(b) ? -5 : 0, x -> x.unify(a, b));
                }
            }
        }
    }

    private static void failedUnification(Start start) {
        int[][] pairs = {
            {States.EMPTY_LIST, States.LISTED, -7},
            {States.BOUND_LIST, States.EMPTY_LIST, -7},
            {States.FREE_LIST, States.PATTERN, -8},
            {States.FREE_LIST, States.CYCLES, -8},
            {States.VOID, States.VOID + 1, -8},
            {States.BINDS_THEN_CYCLES, States.CYCLES, -8},
            {States.BINDS_THEN_CLASHES, States.CLASHES, -7},
        };
        for (int[] pair : pairs) {
            refused(start, "unify(" + pair[0] + ", " + pair[1] + ")", pair[2], x -> x.unify(pair[0], pair[1]));
            refused(start, "unify(" + pair[1] + ", " + pair[0] + ")", pair[2], x -> x.unify(pair[1], pair[0]));
        }
    }

    private static void addRow(Start start) {
        for (int node : around(start.nodes())) {
            refused(start, "addRow(" + node + ")", start.lacksNode(node) ? -3 : 0, x -> x.addRow(node));
        }
        if (start.rows() > 0) {
            for (int node : new int[] {States.FREE_FLAG, States.BOUND_FLAG, States.VOID}) {
                refused(start, "addRow(" + node + ")", -5, x -> x.addRow(node));
            }
        }
        if (start.isFull()) {
            refused(start, "addRow of the subject type", -6, x -> x.addRow(States.FREE_LIST));
        }
    }

    private static void firstMatch(Start start) {
        for (int node : around(start.nodes())) {
            refused(start, "firstMatch(" + node + ")", start.lacksNode(node) ? -3 : 0, x -> x.firstMatch(node));
        }
        if (start.rows() > 0) {
            refused(start, "firstMatch of another type, ground", -5, x -> x.firstMatch(States.FLAG));
            refused(start, "firstMatch of another type, not ground", -5, x -> x.firstMatch(States.VOID));
            refused(start, "firstMatch of a free variable", -9, x -> x.firstMatch(States.FREE_LIST));
            refused(start, "firstMatch with a free variable inside", -9, x -> x.firstMatch(States.CYCLES));
            refused(start, "firstMatch of a term that is too large", -10, x -> x.firstMatch(States.LARGE));
            Twins.State noRows = () -> {
                Counted x = start.state().make();
                x.clearRows();
                return x;
            };
            for (int node : new int[] {States.FLAG, States.VOID, States.FREE_LIST, States.LARGE, States.LISTED}) {
                twins.refused("no rows: firstMatch(" + node + ")", noRows, x -> x.firstMatch(node), -11);
            }
            twins.refused("no rows: firstMatch(-1)", noRows, x -> x.firstMatch(-1), -3);
        }
    }

    private static void coverage(Start start) {
        boolean noRows = start.rows() == 0;
        for (int size : new int[] {MIN, -1, 0, 1, 8, 9, MAX}) {
            boolean badSize = size < 1 || size > 8;
            int want = first(noRows, -11, badSize, -4);
            refused(start, "uncovered(" + size + ")", want, x -> x.uncovered(size));
            refused(start, "firstUncovered(" + size + ")", want, x -> x.firstUncovered(size));
            for (int row : around(start.rows())) {
                boolean badRow = row < 0 || row >= start.rows();
                refused(start, "coveredBy(" + row + ", " + size + ")", first(noRows, -11, badRow || badSize, -4),
                        x -> x.coveredBy(row, size));
            }
        }
    }
}
