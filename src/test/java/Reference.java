import java.math.BigInteger;
import java.util.ArrayList;
import java.util.Arrays;
import java.util.Collections;
import java.util.HashMap;
import java.util.List;
import java.util.Map;

/**
 * A second program for the same document, written in another way: values are trees that are listed
 * and sorted, numbers are exact, and unification goes by recursion. SKIP stands for an answer
 * that would take it too long; LOST says that from then on its state can't be trusted.
 */
final class Reference {
    static final int SKIP = Integer.MIN_VALUE;
    static final int LOST = Integer.MIN_VALUE + 1;
    private static final int MANY = 1000000;
    private static final int BUDGET = 200000;

    /** A value: a constructor and its arguments. */
    private record Value(int constructor, List<Value> arguments) {
        int size() {
            int size = 1;
            for (Value argument : arguments) {
                size += argument.size();
            }
            return size;
        }

        int compareWith(Value other) {
            int order = Integer.compare(size(), other.size());
            if (order == 0) {
                order = Integer.compare(constructor, other.constructor);
            }
            for (int k = 0; order == 0 && k < arguments.size(); k++) {
                order = arguments.get(k).compareWith(other.arguments.get(k));
            }
            return order;
        }
    }

    private record Constructor(int type, int[] arguments) {
    }

    /** A node: a variable if the constructor is -1. */
    private record Node(int type, int constructor, int[] children) {
    }

    /** Thrown where unification fails, with the code to answer. */
    private static final class Failure extends RuntimeException {
        private static final long serialVersionUID = 1L;
        final int code;

        Failure(int code) {
            this.code = code;
        }
    }

    private int types = 0;
    private final List<Constructor> constructors = new ArrayList<>();
    private final List<Node> nodes = new ArrayList<>();
    private Map<Integer, Integer> bindings = new HashMap<>();
    private final List<Map<Integer, Integer>> stack = new ArrayList<>();
    private final List<Integer> rows = new ArrayList<>();
    private final Map<String, BigInteger> countMemo = new HashMap<>();
    private final Map<String, List<Value>> listMemo = new HashMap<>();
    private int budget = 0;

    int addType() {
        if (types == 4) {
            return -6;
        }
        return types++;
    }

    int addConstructor(int type, int arity, int a, int b, int c) {
        if (arity < 0 || arity > 3) {
            return -4;
        }
        int[] arguments = Arrays.copyOf(new int[] {a, b, c}, arity);
        if (!isType(type) || !Arrays.stream(arguments).allMatch(this::isType)) {
            return -1;
        }
        if (constructors.size() == 12) {
            return -6;
        }
        constructors.add(new Constructor(type, arguments));
        countMemo.clear();
        listMemo.clear();
        return constructors.size() - 1;
    }

    int resultType(int constructor) {
        return isConstructor(constructor) ? constructors.get(constructor).type() : -2;
    }

    int arity(int constructor) {
        return isConstructor(constructor) ? constructors.get(constructor).arguments().length : -2;
    }

    int argumentType(int constructor, int k) {
        if (!isConstructor(constructor)) {
            return -2;
        }
        int[] arguments = constructors.get(constructor).arguments();
        return k < 0 || k >= arguments.length ? -13 : arguments[k];
    }

    /** Infinite if there is a value higher than the number of types: a type repeats on its way. */
    int cardinality(int type) {
        if (!isType(type)) {
            return -1;
        }
        boolean[][] exactly = new boolean[13][4];
        boolean[][] upTo = new boolean[13][4];
        BigInteger[][] numbers = new BigInteger[13][4];
        Arrays.fill(numbers[0], BigInteger.ZERO);
        for (int height = 1; height <= 12; height++) {
            Arrays.fill(numbers[height], BigInteger.ZERO);
            for (Constructor constructor : constructors) {
                boolean possible = true;
                boolean touches = height == 1 && constructor.arguments().length == 0;
                BigInteger product = BigInteger.ONE;
                for (int argument : constructor.arguments()) {
                    possible &= upTo[height - 1][argument];
                    touches |= exactly[height - 1][argument];
                    product = product.multiply(numbers[height - 1][argument]);
                }
                exactly[height][constructor.type()] |= possible && touches;
                if (height <= 4) {
                    numbers[height][constructor.type()] =
                            numbers[height][constructor.type()].add(product);
                }
            }
            for (int t = 0; t < 4; t++) {
                upTo[height][t] = upTo[height - 1][t] || exactly[height][t];
            }
        }
        for (int height = 5; height <= 12; height++) {
            if (exactly[height][type]) {
                return -14;
            }
        }
        return cut(numbers[4][type]);
    }

    int smallestSize(int type) {
        if (!isType(type)) {
            return -1;
        }
        for (int size = 1; size <= 45; size++) {
            if (exactCount(type, size).signum() > 0) {
                return size;
            }
        }
        return -13;
    }

    int count(int type, int size) {
        if (!isType(type)) {
            return -1;
        }
        return size < 1 || size > 12 ? -4 : cut(exactCount(type, size));
    }

    int value(int type, int size, int index) {
        if (!isType(type)) {
            return -1;
        }
        if (size < 1 || size > 12) {
            return -4;
        }
        if (index < 0 || index >= cut(exactCount(type, size))) {
            return -13;
        }
        if (nodes.size() + size > 100) {
            return -6;
        }
        Value value = exactCount(type, size).intValue() <= 3000 && size <= 9
                ? list(type, size).get(index)
                : pick(type, size, BigInteger.valueOf(index));
        return create(value);
    }

    private int create(Value value) {
        int[] children = new int[value.arguments().size()];
        for (int k = 0; k < children.length; k++) {
            children[k] = create(value.arguments().get(k));
        }
        nodes.add(new Node(resultType(value.constructor()), value.constructor(), children));
        return nodes.size() - 1;
    }

    int variable(int type) {
        if (!isType(type)) {
            return -1;
        }
        if (nodes.size() == 100) {
            return -6;
        }
        nodes.add(new Node(type, -1, new int[0]));
        return nodes.size() - 1;
    }

    int term(int constructor, int a, int b, int c) {
        if (!isConstructor(constructor)) {
            return -2;
        }
        int[] wanted = constructors.get(constructor).arguments();
        int[] children = Arrays.copyOf(new int[] {a, b, c}, wanted.length);
        for (int child : children) {
            if (!isNode(child)) {
                return -3;
            }
        }
        for (int k = 0; k < wanted.length; k++) {
            if (nodes.get(children[k]).type() != wanted[k]) {
                return -5;
            }
        }
        if (nodes.size() == 100) {
            return -6;
        }
        nodes.add(new Node(resultType(constructor), constructor, children));
        return nodes.size() - 1;
    }

    int nodeCount() {
        return nodes.size();
    }

    int nodeType(int node) {
        return isNode(node) ? nodes.get(node).type() : -3;
    }

    int head(int node) {
        if (!isNode(node)) {
            return -3;
        }
        int constructor = resolved(node).constructor();
        return constructor < 0 ? -13 : constructor;
    }

    int child(int node, int k) {
        if (!isNode(node)) {
            return -3;
        }
        int[] children = resolved(node).children();
        return k < 0 || k >= children.length ? -13 : children[k];
    }

    int binding(int node) {
        return isNode(node) ? bindings.getOrDefault(node, -13) : -3;
    }

    int size(int node) {
        if (!isNode(node)) {
            return -3;
        }
        BigInteger size = exactSize(resolve(node), new HashMap<>());
        return size == null ? -9 : cut(size);
    }

    int rank(int node) {
        int size = size(node);
        if (size < 0) {
            return size;
        }
        if (size > 12) {
            return -10;
        }
        BigInteger rank = exactRank(valueOf(node));
        return rank.compareTo(BigInteger.valueOf(MANY)) >= 0 ? -10 : rank.intValue();
    }

    int equal(int a, int b) {
        if (!isNode(a) || !isNode(b)) {
            return -3;
        }
        budget = BUDGET;
        boolean same = same(a, b);
        return budget <= 0 ? SKIP : same ? 1 : 0;
    }

    private boolean same(int a, int b) {
        if (budget-- <= 0) {
            return false;
        }
        int first = resolve(a);
        int second = resolve(b);
        Node one = nodes.get(first);
        Node other = nodes.get(second);
        if (one.constructor() < 0 || other.constructor() < 0) {
            return first == second;
        }
        boolean equal = one.constructor() == other.constructor();
        for (int k = 0; equal && k < one.children().length; k++) {
            equal = same(one.children()[k], other.children()[k]);
        }
        return equal;
    }

    int unify(int a, int b) {
        if (!isNode(a) || !isNode(b)) {
            return -3;
        }
        if (nodes.get(a).type() != nodes.get(b).type()) {
            return -5;
        }
        Map<Integer, Integer> before = new HashMap<>(bindings);
        budget = BUDGET;
        try {
            join(a, b);
            return 1;
        } catch (Failure failure) {
            bindings = before;
            return failure.code;
        }
    }

    private void join(int a, int b) {
        spend();
        int first = resolve(a);
        int second = resolve(b);
        boolean firstFree = nodes.get(first).constructor() < 0;
        boolean secondFree = nodes.get(second).constructor() < 0;
        if (first == second) {
            return;
        }
        if (firstFree && secondFree) {
            bindings.put(Math.max(first, second), Math.min(first, second));
        } else if (firstFree || secondFree) {
            int variable = firstFree ? first : second;
            int term = firstFree ? second : first;
            if (occurs(variable, term)) {
                throw new Failure(-8);
            }
            bindings.put(variable, term);
        } else if (nodes.get(first).constructor() != nodes.get(second).constructor()) {
            throw new Failure(-7);
        } else {
            for (int k = 0; k < nodes.get(first).children().length; k++) {
                join(nodes.get(first).children()[k], nodes.get(second).children()[k]);
            }
        }
    }

    private boolean occurs(int variable, int node) {
        spend();
        int top = resolve(node);
        if (top == variable) {
            return true;
        }
        for (int child : nodes.get(top).children()) {
            if (occurs(variable, child)) {
                return true;
            }
        }
        return false;
    }

    private void spend() {
        if (budget-- <= 0) {
            throw new Failure(LOST);
        }
    }

    int boundCount() {
        return bindings.size();
    }

    int unbindAll() {
        int bound = bindings.size();
        bindings.clear();
        return bound;
    }

    int push() {
        if (stack.size() == 8) {
            return -6;
        }
        stack.add(new HashMap<>(bindings));
        return stack.size();
    }

    int pop() {
        if (stack.isEmpty()) {
            return -12;
        }
        bindings = stack.remove(stack.size() - 1);
        return stack.size();
    }

    int addRow(int pattern) {
        if (!isNode(pattern)) {
            return -3;
        }
        if (!rows.isEmpty() && nodes.get(pattern).type() != subjectType()) {
            return -5;
        }
        if (rows.size() == 8) {
            return -6;
        }
        rows.add(pattern);
        return rows.size() - 1;
    }

    int clearRows() {
        int removed = rows.size();
        rows.clear();
        return removed;
    }

    int firstMatch(int node) {
        if (!isNode(node)) {
            return -3;
        }
        if (rows.isEmpty()) {
            return -11;
        }
        if (nodes.get(node).type() != subjectType()) {
            return -5;
        }
        int size = size(node);
        if (size < 0) {
            return size;
        }
        return size > 60 ? -10 : matchOf(valueOf(node));
    }

    int uncovered(int size) {
        if (rows.isEmpty()) {
            return -11;
        }
        return countMatches(-13, size);
    }

    int firstUncovered(int limit) {
        if (rows.isEmpty()) {
            return -11;
        }
        if (limit < 1 || limit > 8) {
            return -4;
        }
        for (int size = 1; size <= limit; size++) {
            if (count(subjectType(), size) > 2000) {
                return -10;
            }
        }
        for (int size = 1; size <= limit; size++) {
            List<Value> values = list(subjectType(), size);
            for (int index = 0; index < values.size(); index++) {
                if (matchOf(values.get(index)) == -13) {
                    return 10000 * size + index;
                }
            }
        }
        return -13;
    }

    int coveredBy(int row, int size) {
        if (rows.isEmpty()) {
            return -11;
        }
        return row < 0 || row >= rows.size() ? -4 : countMatches(row, size);
    }

    private int countMatches(int row, int size) {
        if (size < 1 || size > 8) {
            return -4;
        }
        if (count(subjectType(), size) > 2000) {
            return -10;
        }
        int found = 0;
        for (Value value : list(subjectType(), size)) {
            if (matchOf(value) == row) {
                found++;
            }
        }
        return found;
    }

    private int subjectType() {
        return nodes.get(rows.get(0)).type();
    }

    private int matchOf(Value value) {
        for (int row = 0; row < rows.size(); row++) {
            if (matches(rows.get(row), value, new HashMap<>())) {
                return row;
            }
        }
        return -13;
    }

    private boolean matches(int pattern, Value value, Map<Integer, Value> given) {
        int top = resolve(pattern);
        Node node = nodes.get(top);
        if (node.constructor() < 0) {
            Value earlier = given.putIfAbsent(top, value);
            return earlier == null || earlier.equals(value);
        }
        boolean fits = node.constructor() == value.constructor();
        for (int k = 0; fits && k < node.children().length; k++) {
            fits = matches(node.children()[k], value.arguments().get(k), given);
        }
        return fits;
    }

    private boolean isType(int type) {
        return type >= 0 && type < types;
    }

    private boolean isConstructor(int constructor) {
        return constructor >= 0 && constructor < constructors.size();
    }

    private boolean isNode(int node) {
        return node >= 0 && node < nodes.size();
    }

    private int resolve(int node) {
        int top = node;
        while (bindings.containsKey(top)) {
            top = bindings.get(top);
        }
        return top;
    }

    private Node resolved(int node) {
        return nodes.get(resolve(node));
    }

    private static int cut(BigInteger number) {
        return number.min(BigInteger.valueOf(MANY)).intValue();
    }

    private Value valueOf(int node) {
        Node top = resolved(node);
        List<Value> arguments = new ArrayList<>();
        for (int child : top.children()) {
            arguments.add(valueOf(child));
        }
        return new Value(top.constructor(), arguments);
    }

    private BigInteger exactSize(int top, Map<Integer, BigInteger> known) {
        if (nodes.get(top).constructor() < 0) {
            return null;
        }
        if (known.containsKey(top)) {
            return known.get(top);
        }
        BigInteger size = BigInteger.ONE;
        for (int child : nodes.get(top).children()) {
            BigInteger part = exactSize(resolve(child), known);
            size = size == null || part == null ? null : size.add(part);
        }
        known.put(top, size);
        return size;
    }

    private BigInteger exactCount(int type, int size) {
        String key = type + "/" + size;
        BigInteger known = countMemo.get(key);
        if (known != null) {
            return known;
        }
        BigInteger sum = BigInteger.ZERO;
        for (Constructor constructor : constructors) {
            if (constructor.type() == type) {
                sum = sum.add(tuples(constructor.arguments(), size - 1));
            }
        }
        countMemo.put(key, sum);
        return sum;
    }

    /** Counts the lists of values of these types with a total size. */
    private BigInteger tuples(int[] argumentTypes, int total) {
        if (argumentTypes.length == 0) {
            return total == 0 ? BigInteger.ONE : BigInteger.ZERO;
        }
        String key = Arrays.toString(argumentTypes) + "/" + total;
        BigInteger known = countMemo.get(key);
        if (known != null) {
            return known;
        }
        int[] rest = Arrays.copyOfRange(argumentTypes, 1, argumentTypes.length);
        BigInteger sum = BigInteger.ZERO;
        for (int first = 1; first <= total; first++) {
            sum = sum.add(exactCount(argumentTypes[0], first).multiply(tuples(rest, total - first)));
        }
        countMemo.put(key, sum);
        return sum;
    }

    /** All values of a type with a size, listed in no special order and then sorted. */
    private List<Value> list(int type, int size) {
        String key = type + "/" + size;
        List<Value> known = listMemo.get(key);
        if (known != null) {
            return known;
        }
        List<Value> values = new ArrayList<>();
        for (int number = constructors.size() - 1; number >= 0; number--) {
            if (constructors.get(number).type() == type) {
                for (List<Value> arguments : listTuples(constructors.get(number).arguments(), size - 1)) {
                    values.add(new Value(number, arguments));
                }
            }
        }
        Collections.sort(values, Value::compareWith);
        listMemo.put(key, values);
        return values;
    }

    private List<List<Value>> listTuples(int[] argumentTypes, int total) {
        List<List<Value>> tuples = new ArrayList<>();
        if (argumentTypes.length == 0) {
            if (total == 0) {
                tuples.add(List.of());
            }
            return tuples;
        }
        int[] rest = Arrays.copyOfRange(argumentTypes, 1, argumentTypes.length);
        for (int first = total; first >= 1; first--) {
            if (tuples(rest, total - first).signum() > 0
                    && exactCount(argumentTypes[0], first).signum() > 0) {
                for (List<Value> tail : listTuples(rest, total - first)) {
                    for (Value value : list(argumentTypes[0], first)) {
                        List<Value> tuple = new ArrayList<>();
                        tuple.add(value);
                        tuple.addAll(tail);
                        tuples.add(tuple);
                    }
                }
            }
        }
        return tuples;
    }

    private Value pick(int type, int size, BigInteger index) {
        BigInteger left = index;
        for (int number = 0; number < constructors.size(); number++) {
            if (constructors.get(number).type() == type) {
                int[] arguments = constructors.get(number).arguments();
                BigInteger block = tuples(arguments, size - 1);
                if (left.compareTo(block) < 0) {
                    return new Value(number, pickTuple(arguments, size - 1, left));
                }
                left = left.subtract(block);
            }
        }
        throw new IllegalStateException("no value with that index");
    }

    private List<Value> pickTuple(int[] argumentTypes, int total, BigInteger index) {
        List<Value> tuple = new ArrayList<>();
        if (argumentTypes.length == 0) {
            return tuple;
        }
        int[] rest = Arrays.copyOfRange(argumentTypes, 1, argumentTypes.length);
        BigInteger left = index;
        for (int first = 1; first <= total; first++) {
            BigInteger tails = tuples(rest, total - first);
            BigInteger block = exactCount(argumentTypes[0], first).multiply(tails);
            if (left.compareTo(block) < 0) {
                BigInteger[] parts = left.divideAndRemainder(tails);
                tuple.add(pick(argumentTypes[0], first, parts[0]));
                tuple.addAll(pickTuple(rest, total - first, parts[1]));
                return tuple;
            }
            left = left.subtract(block);
        }
        throw new IllegalStateException("no tuple with that index");
    }

    /** Counts the values of the same type and size that come before a value. */
    private BigInteger exactRank(Value value) {
        BigInteger rank = BigInteger.ZERO;
        Constructor root = constructors.get(value.constructor());
        int total = value.size() - 1;
        for (int number = 0; number < value.constructor(); number++) {
            if (constructors.get(number).type() == root.type()) {
                rank = rank.add(tuples(constructors.get(number).arguments(), total));
            }
        }
        for (int k = 0; k < root.arguments().length; k++) {
            Value argument = value.arguments().get(k);
            int[] rest = Arrays.copyOfRange(root.arguments(), k + 1, root.arguments().length);
            for (int first = 1; first < argument.size(); first++) {
                rank = rank.add(exactCount(root.arguments()[k], first)
                        .multiply(tuples(rest, total - first)));
            }
            total -= argument.size();
            rank = rank.add(exactRank(argument).multiply(tuples(rest, total)));
        }
        return rank;
    }
}
