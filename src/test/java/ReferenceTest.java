import java.util.ArrayDeque;
import java.util.Deque;
import java.util.SplittableRandom;

/** Long runs of calls, drawn from fixed seeds, answered by the class and by the Reference alike. */
public final class ReferenceTest {
    private static final int CALLS = 512;
    // The methods have the numbers that follow from their order in the document's face.
    private static final int METHODS = 30;
    private static final int VALUE = 8;
    private static final int VARIABLE = 9;
    private static final int TERM = 10;
    private static final int SIZE = 16;
    private static final int UNIFY = 19;
    private static final int UNBIND_ALL = 21;
    private static final int ADD_ROW = 24;
    private static final int CLEAR_ROWS = 25;
    private static final Checks checks = new Checks("ReferenceTest");
    private static final long[] answers = new long[METHODS];
    private static final long[] successes = new long[METHODS];

    public static void main(String[] args) {
        int runs = args.length > 0 ? Integer.parseInt(args[0]) : 3000;
        int firstSeed = args.length > 1 ? Integer.parseInt(args[1]) : 1;
        for (int seed = firstSeed; seed < firstSeed + runs && !checks.failed(); seed++) {
            run(seed);
        }
        for (int method = 0; method < METHODS; method++) {
            checks.holds("method " + method + " was called with good and bad answers",
                    answers[method] > 100 && successes[method] > 100);
        }
        checks.end();
    }

    private final SplittableRandom random;
    private final DatatypeTerms x = new DatatypeTerms();
    private final Reference r = new Reference();
    private final Deque<String> history = new ArrayDeque<>();
    private final int seed;
    // A run may add to its types late, or fix them at the start; it may be narrow or wild.
    private final boolean lateTypes;
    private final boolean wild;
    private boolean lost = false;

    private ReferenceTest(int seed) {
        this.seed = seed;
        this.random = new SplittableRandom(seed);
        this.lateTypes = random.nextInt(4) == 0;
        this.wild = random.nextInt(6) == 0;
    }

    private static void run(int seed) {
        ReferenceTest run = new ReferenceTest(seed);
        int calls = run.start();
        while (calls < CALLS && !run.lost && !checks.failed()) {
            run.call(run.pickMethod());
            calls++;
        }
    }

    /** Defines types at first, so that most runs have values to work on. */
    private int start() {
        if (lateTypes) {
            return 0;
        }
        int types = 1 + random.nextInt(4);
        int constructors = 1 + random.nextInt(12);
        for (int i = 0; i < types; i++) {
            call(0);
        }
        for (int i = 0; i < constructors; i++) {
            int arity = random.nextInt(3) == 0 ? 0 : random.nextInt(4);
            int type = i < types && random.nextInt(3) > 0 ? i : random.nextInt(types);
            addConstructor(type, i < types && random.nextBoolean() ? 0 : arity,
                    random.nextInt(types), random.nextInt(types), random.nextInt(types));
        }
        return types + constructors;
    }

    private int pickMethod() {
        int dice = random.nextInt(100);
        if (dice < 12) {
            return VARIABLE + random.nextInt(2);
        }
        if (dice < 28) {
            return UNIFY;
        }
        if (dice < 33) {
            return TERM;
        }
        if (dice < 37) {
            return ADD_ROW;
        }
        if (dice < 55) {
            return CLEAR_ROWS + 1 + random.nextInt(4);
        }
        if (dice < 57) {
            return VALUE;
        }
        int method = random.nextInt(METHODS);
        // What fills or empties the object would come too often to let the other calls work.
        boolean rare = method <= 1 || method == VALUE || method == UNBIND_ALL || method == CLEAR_ROWS;
        return rare && random.nextInt(lateTypes ? 2 : 5) > 0 ? SIZE + random.nextInt(4) : method;
    }

    private int any(int limit) {
        int dice = random.nextInt(wild ? 12 : 40);
        if (dice == 0) {
            return new int[] {-1, limit, limit + 1, Integer.MIN_VALUE, Integer.MAX_VALUE, -2}[
                    random.nextInt(6)];
        }
        return random.nextInt(Math.max(1, limit));
    }

    private int anyType() {
        return any(Math.max(1, typeCount()));
    }

    private int typeCount() {
        int types = 0;
        while (r.cardinality(types) != -1) {
            types++;
        }
        return types;
    }

    private int anyConstructor() {
        int constructors = 0;
        while (r.arity(constructors) != -2) {
            constructors++;
        }
        return any(constructors);
    }

    private int anyNode() {
        int total = r.nodeCount();
        return random.nextInt(3) == 0 && total > 8 ? total - 1 - random.nextInt(8) : any(total);
    }

    /** Mostly a node of a type, so that calls do not fail for their types alone. */
    private int nodeOf(int type) {
        for (int i = 0; i < 20; i++) {
            int node = anyNode();
            if (r.nodeType(node) == type) {
                return node;
            }
        }
        return anyNode();
    }

    private int anySize(int limit) {
        return any(limit) + 1;
    }

    private void call(int method) {
        switch (method) {
            case 0 -> due(method, "addType()", x.addType(), r.addType());
            case 1 -> addConstructor(anyType(), any(4), anyType(), anyType(), anyType());
            case 2 -> {
                int c = anyConstructor();
                due(method, "resultType(" + c + ")", x.resultType(c), r.resultType(c));
            }
            case 3 -> {
                int c = anyConstructor();
                due(method, "arity(" + c + ")", x.arity(c), r.arity(c));
            }
            case 4 -> {
                int c = anyConstructor();
                int k = any(3);
                due(method, "argumentType(" + c + ", " + k + ")", x.argumentType(c, k), r.argumentType(c, k));
            }
            case 5 -> {
                int t = anyType();
                due(method, "cardinality(" + t + ")", x.cardinality(t), r.cardinality(t));
            }
            case 6 -> {
                int t = anyType();
                due(method, "smallestSize(" + t + ")", x.smallestSize(t), r.smallestSize(t));
            }
            case 7 -> {
                int t = anyType();
                int s = anySize(12);
                due(method, "count(" + t + ", " + s + ")", x.count(t, s), r.count(t, s));
            }
            case 8 -> value();
            case 9 -> {
                int t = anyType();
                due(method, "variable(" + t + ")", x.variable(t), r.variable(t));
            }
            case 10 -> term();
            default -> callOnNodes(method);
        }
    }

    private void callOnNodes(int method) {
        int a = anyNode();
        int b = nodeOf(r.nodeType(a));
        int k = any(3);
        switch (method) {
            case 11 -> due(method, "nodeCount()", x.nodeCount(), r.nodeCount());
            case 12 -> due(method, "nodeType(" + a + ")", x.nodeType(a), r.nodeType(a));
            case 13 -> due(method, "head(" + a + ")", x.head(a), r.head(a));
            case 14 -> due(method, "child(" + a + ", " + k + ")", x.child(a, k), r.child(a, k));
            case 15 -> due(method, "binding(" + a + ")", x.binding(a), r.binding(a));
            case 16 -> due(method, "size(" + a + ")", x.size(a), r.size(a));
            case 17 -> due(method, "rank(" + a + ")", x.rank(a), r.rank(a));
            case 18 -> due(method, "equal(" + a + ", " + b + ")", x.equal(a, b), r.equal(a, b));
            case 19 -> {
                due(method, "unify(" + a + ", " + b + ")", x.unify(a, b), r.unify(a, b));
                checkBindings();
            }
            case 20 -> due(method, "boundCount()", x.boundCount(), r.boundCount());
            case 21 -> {
                due(method, "unbindAll()", x.unbindAll(), r.unbindAll());
                checkBindings();
            }
            case 22 -> due(method, "push()", x.push(), r.push());
            case 23 -> {
                due(method, "pop()", x.pop(), r.pop());
                checkBindings();
            }
            default -> callOnRows(method, a);
        }
    }

    private void callOnRows(int method, int a) {
        int size = anySize(8);
        int row = any(8);
        switch (method) {
            case 24 -> due(method, "addRow(" + a + ")", x.addRow(a), r.addRow(a));
            case 25 -> due(method, "clearRows()", x.clearRows(), r.clearRows());
            case 26 -> due(method, "firstMatch(" + a + ")", x.firstMatch(a), r.firstMatch(a));
            case 27 -> due(method, "uncovered(" + size + ")", x.uncovered(size), r.uncovered(size));
            case 28 -> due(method, "firstUncovered(" + size + ")", x.firstUncovered(size), r.firstUncovered(size));
            default -> due(method, "coveredBy(" + row + ", " + size + ")", x.coveredBy(row, size), r.coveredBy(row, size));
        }
    }

    private void addConstructor(int t, int arity, int a, int b, int c) {
        due(1, "addConstructor(" + t + ", " + arity + ", " + a + ", " + b + ", " + c + ")",
                x.addConstructor(t, arity, a, b, c), r.addConstructor(t, arity, a, b, c));
    }

    private void value() {
        int t = anyType();
        int size = 1 + random.nextInt(random.nextInt(3) == 0 ? 12 : 5);
        if (random.nextInt(20) == 0) {
            size = anySize(12);
        }
        int index = any(Math.max(1, r.count(t, size)));
        due(8, "value(" + t + ", " + size + ", " + index + ")", x.value(t, size, index), r.value(t, size, index));
        checkNodes();
    }

    private void term() {
        int c = anyConstructor();
        int[] children = new int[3];
        for (int k = 0; k < 3; k++) {
            int wanted = r.argumentType(c, k);
            children[k] = wanted >= 0 && random.nextInt(20) > 0 ? nodeOf(wanted) : anyNode();
        }
        due(10, "term(" + c + ", " + children[0] + ", " + children[1] + ", " + children[2] + ")",
                x.term(c, children[0], children[1], children[2]),
                r.term(c, children[0], children[1], children[2]));
    }

    private void checkNodes() {
        boolean same = x.nodeCount() == r.nodeCount();
        for (int node = 0; same && node < r.nodeCount(); node++) {
            same = x.nodeType(node) == r.nodeType(node) && x.head(node) == r.head(node);
            for (int k = 0; same && k < 3; k++) {
                same = x.child(node, k) == r.child(node, k);
            }
        }
        hold("the nodes are the same", same);
    }

    private void checkBindings() {
        boolean same = x.boundCount() == r.boundCount();
        for (int node = 0; same && node < r.nodeCount(); node++) {
            same = x.binding(node) == r.binding(node);
        }
        hold("the bindings are the same", same || lost);
    }

    private void hold(String what, boolean truth) {
        checks.holds("seed " + seed + ": " + what, truth);
        if (!truth) {
            tell();
        }
    }

    private void due(int method, String call, int got, int want) {
        history.add(call + " = " + want);
        if (want == Reference.LOST) {
            lost = true;
            return;
        }
        if (want == Reference.SKIP) {
            return;
        }
        answers[method]++;
        if (want >= 0) {
            successes[method]++;
        }
        checks.due("seed " + seed + ", call " + history.size() + ": " + call, got, want);
        if (got != want) {
            tell();
        }
    }

    private void tell() {
        for (String line : history) {
            System.out.println("    " + line);
        }
    }
}
