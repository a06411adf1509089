import java.util.Arrays;

/**
 * Algebraic data types: counting and enumerating their values, terms with variables,
 * unification with an occurs check, and coverage of pattern-match rows.
 */
public final class DatatypeTerms {
    public static final int NO_SUCH_TYPE = -1, NO_SUCH_CONSTRUCTOR = -2, NO_SUCH_NODE = -3, OUT_OF_RANGE = -4, WRONG_TYPE = -5, FULL = -6, CLASH = -7, CYCLE = -8, NOT_GROUND = -9, TOO_LARGE = -10, NO_ROWS = -11, EMPTY = -12, NONE = -13;
    public static final int INFINITE = -14;
    public static final int MANY = 1000000;

    private static final int TYPE_LIMIT = 4;
    private static final int CONSTRUCTOR_LIMIT = 12;
    private static final int ARITY_LIMIT = 3;
    private static final int NODE_LIMIT = 100;
    private static final int SAVED_LIMIT = 8;
    private static final int ROW_LIMIT = 8;
    private static final int VALUE_SIZE_LIMIT = 12;
    private static final int MATCH_SIZE_LIMIT = 60;
    private static final int COVERAGE_SIZE_LIMIT = 8;
    private static final int COVERAGE_COUNT_LIMIT = 2000;
    private static final int UNCOVERED_SIZE_WEIGHT = 10000;

    // Rows of the counting tables are indexed by sizes from 0 to VALUE_SIZE_LIMIT.
    private static final int SIZE_SPAN = VALUE_SIZE_LIMIT + 1;
    // Far above what any run needs: only there so that every loop shows its end.
    private static final int STEP_LIMIT = 1000000;
    private static final int FREE = -1;
    private static final int NO_CONSTRUCTOR = -1;
    private static final int UNIFIED = 1;

    private final Signature signature;
    private final Population population;
    private final ValueOrder valueOrder;
    private final Nodes nodes;
    private final ValueBuilder builder;
    private final TermReader reader;
    private final Unifier unifier;
    private final SavedBindings saved;
    private final Rows rows;

    public DatatypeTerms() {
        signature = new Signature();
        population = new Population(signature);
        valueOrder = new ValueOrder(signature);
        nodes = new Nodes(signature);
        builder = new ValueBuilder(signature, valueOrder, nodes);
        reader = new TermReader(nodes, valueOrder);
        unifier = new Unifier(nodes);
        saved = new SavedBindings();
        rows = new Rows(nodes);
    }

    public int addType() {
        if (signature.typeTotal >= TYPE_LIMIT) {
            return FULL;
        }
        int type = signature.typeTotal;
        signature.typeTotal++;
        return type;
    }

    public int addConstructor(int type, int arity, int a, int b, int c) {
        if (arity < 0 || arity > ARITY_LIMIT) {
            return OUT_OF_RANGE;
        }
        if (!signature.hasType(type)
                || arity > 0 && !signature.hasType(a)
                || arity > 1 && !signature.hasType(b)
                || arity > 2 && !signature.hasType(c)) {
            return NO_SUCH_TYPE;
        }
        if (signature.constructorTotal >= CONSTRUCTOR_LIMIT) {
            return FULL;
        }
        int constructor = signature.define(type, arity, a, b, c);
        population.recompute();
        valueOrder.recompute();
        return constructor;
    }

    public int resultType(int constructor) {
        if (!signature.hasConstructor(constructor)) {
            return NO_SUCH_CONSTRUCTOR;
        }
        return signature.resultTypes[constructor];
    }

    public int arity(int constructor) {
        if (!signature.hasConstructor(constructor)) {
            return NO_SUCH_CONSTRUCTOR;
        }
        return signature.arities[constructor];
    }

    public int argumentType(int constructor, int k) {
        if (!signature.hasConstructor(constructor)) {
            return NO_SUCH_CONSTRUCTOR;
        }
        if (k < 0 || k >= signature.arities[constructor]) {
            return NONE;
        }
        return signature.typeOfArgument(constructor, k);
    }

    public int cardinality(int type) {
        if (!signature.hasType(type)) {
            return NO_SUCH_TYPE;
        }
        return population.totals[type];
    }

    public int smallestSize(int type) {
        if (!signature.hasType(type)) {
            return NO_SUCH_TYPE;
        }
        return population.smallest[type];
    }

    public int count(int type, int size) {
        if (!signature.hasType(type)) {
            return NO_SUCH_TYPE;
        }
        if (size < 1 || size > VALUE_SIZE_LIMIT) {
            return OUT_OF_RANGE;
        }
        return valueOrder.countOf(type, size);
    }

    public int value(int type, int size, int index) {
        if (!signature.hasType(type)) {
            return NO_SUCH_TYPE;
        }
        if (size < 1 || size > VALUE_SIZE_LIMIT) {
            return OUT_OF_RANGE;
        }
        if (index < 0 || index >= valueOrder.countOf(type, size)) {
            return NONE;
        }
        if (nodes.total + size > NODE_LIMIT) {
            return FULL;
        }
        return builder.build(type, size, index);
    }

    public int variable(int type) {
        if (!signature.hasType(type)) {
            return NO_SUCH_TYPE;
        }
        if (nodes.total >= NODE_LIMIT) {
            return FULL;
        }
        return nodes.addVariable(type);
    }

    public int term(int constructor, int a, int b, int c) {
        if (!signature.hasConstructor(constructor)) {
            return NO_SUCH_CONSTRUCTOR;
        }
        int arity = signature.arities[constructor];
        if (arity > 0 && !nodes.contains(a)
                || arity > 1 && !nodes.contains(b)
                || arity > 2 && !nodes.contains(c)) {
            return NO_SUCH_NODE;
        }
        if (arity > 0 && nodes.types[a] != signature.typeOfArgument(constructor, 0)
                || arity > 1 && nodes.types[b] != signature.typeOfArgument(constructor, 1)
                || arity > 2 && nodes.types[c] != signature.typeOfArgument(constructor, 2)) {
            return WRONG_TYPE;
        }
        if (nodes.total >= NODE_LIMIT) {
            return FULL;
        }
        return nodes.addConstructed(constructor, a, b, c);
    }

    public int nodeCount() {
        return nodes.total;
    }

    public int nodeType(int node) {
        if (!nodes.contains(node)) {
            return NO_SUCH_NODE;
        }
        return nodes.types[node];
    }

    public int head(int node) {
        if (!nodes.contains(node)) {
            return NO_SUCH_NODE;
        }
        int resolved = nodes.resolve(node);
        return nodes.isVariable(resolved) ? NONE : nodes.constructors[resolved];
    }

    public int child(int node, int k) {
        if (!nodes.contains(node)) {
            return NO_SUCH_NODE;
        }
        int resolved = nodes.resolve(node);
        if (k < 0 || k >= nodes.partTotal(resolved)) {
            return NONE;
        }
        return nodes.children[resolved * ARITY_LIMIT + k];
    }

    public int binding(int node) {
        if (!nodes.contains(node)) {
            return NO_SUCH_NODE;
        }
        return nodes.targets[node] == FREE ? NONE : nodes.targets[node];
    }

    public int size(int node) {
        if (!nodes.contains(node)) {
            return NO_SUCH_NODE;
        }
        return reader.measure(node);
    }

    public int rank(int node) {
        if (!nodes.contains(node)) {
            return NO_SUCH_NODE;
        }
        int size = reader.measure(node);
        if (size == NOT_GROUND) {
            return NOT_GROUND;
        }
        if (size > VALUE_SIZE_LIMIT) {
            return TOO_LARGE;
        }
        int index = reader.indexAmongValues(node);
        return index >= MANY ? TOO_LARGE : index;
    }

    public int equal(int a, int b) {
        if (!nodes.contains(a) || !nodes.contains(b)) {
            return NO_SUCH_NODE;
        }
        return reader.sameTerm(a, b) ? 1 : 0;
    }

    public int unify(int a, int b) {
        if (!nodes.contains(a) || !nodes.contains(b)) {
            return NO_SUCH_NODE;
        }
        if (nodes.types[a] != nodes.types[b]) {
            return WRONG_TYPE;
        }
        return unifier.run(a, b);
    }

    public int boundCount() {
        return nodes.countBound();
    }

    public int unbindAll() {
        int bound = nodes.countBound();
        Arrays.fill(nodes.targets, FREE);
        return bound;
    }

    public int push() {
        if (saved.total >= SAVED_LIMIT) {
            return FULL;
        }
        saved.save(nodes.targets);
        return saved.total;
    }

    public int pop() {
        if (saved.total <= 0) {
            return EMPTY;
        }
        saved.restore(nodes.targets);
        return saved.total;
    }

    public int addRow(int pattern) {
        if (!nodes.contains(pattern)) {
            return NO_SUCH_NODE;
        }
        if (rows.total > 0 && nodes.types[pattern] != rows.subjectType()) {
            return WRONG_TYPE;
        }
        if (rows.total >= ROW_LIMIT) {
            return FULL;
        }
        return rows.append(pattern);
    }

    public int clearRows() {
        int removed = rows.total;
        rows.total = 0;
        return removed;
    }

    public int firstMatch(int node) {
        if (!nodes.contains(node)) {
            return NO_SUCH_NODE;
        }
        if (rows.total == 0) {
            return NO_ROWS;
        }
        if (nodes.types[node] != rows.subjectType()) {
            return WRONG_TYPE;
        }
        int size = reader.measure(node);
        if (size == NOT_GROUND) {
            return NOT_GROUND;
        }
        if (size > MATCH_SIZE_LIMIT) {
            return TOO_LARGE;
        }
        return rows.firstFitting(reader, reader.canonicalNode(node));
    }

    public int uncovered(int size) {
        if (rows.total == 0) {
            return NO_ROWS;
        }
        return countFirstFitting(NONE, size);
    }

    public int firstUncovered(int limit) {
        if (rows.total == 0) {
            return NO_ROWS;
        }
        if (limit < 1 || limit > COVERAGE_SIZE_LIMIT) {
            return OUT_OF_RANGE;
        }
        for (int size = 1; size <= limit; size++) {
            if (valueOrder.countOf(rows.subjectType(), size) > COVERAGE_COUNT_LIMIT) {
                return TOO_LARGE;
            }
        }
        for (int size = 1; size <= limit; size++) {
            int index = firstIndexUncovered(size);
            if (index != NONE) {
                return UNCOVERED_SIZE_WEIGHT * size + index;
            }
        }
        return NONE;
    }

    public int coveredBy(int row, int size) {
        if (rows.total == 0) {
            return NO_ROWS;
        }
        if (row < 0 || row >= rows.total) {
            return OUT_OF_RANGE;
        }
        return countFirstFitting(row, size);
    }

    /** Counts the values of a size whose first match is the row wanted, which may be NONE. */
    private int countFirstFitting(int wanted, int size) {
        if (size < 1 || size > COVERAGE_SIZE_LIMIT) {
            return OUT_OF_RANGE;
        }
        int values = valueOrder.countOf(rows.subjectType(), size);
        if (values > COVERAGE_COUNT_LIMIT) {
            return TOO_LARGE;
        }
        int found = 0;
        for (int index = 0; index < values; index++) {
            if (rows.firstFitting(valueOrder, ValueOrder.keyOf(size, index)) == wanted) {
                found++;
            }
        }
        return found;
    }

    private int firstIndexUncovered(int size) {
        int values = valueOrder.countOf(rows.subjectType(), size);
        for (int index = 0; index < values; index++) {
            if (rows.firstFitting(valueOrder, ValueOrder.keyOf(size, index)) == NONE) {
                return index;
            }
        }
        return NONE;
    }

    // Cutting sums and products of counts at MANY keeps min(MANY, exact number) at every step.
    private static int limitedSum(int a, int b) {
        int sum = a + b;
        return sum < MANY ? sum : MANY;
    }

    private static int limitedProduct(int a, int b) {
        long product = (long) a * b;
        return product < MANY ? (int) product : MANY;
    }

    /** The types and constructors that have been defined. */
    private static final class Signature {
        int typeTotal;
        int constructorTotal;
        final int[] resultTypes = new int[CONSTRUCTOR_LIMIT];
        final int[] arities = new int[CONSTRUCTOR_LIMIT];
        private final int[] argumentTypes = new int[CONSTRUCTOR_LIMIT * ARITY_LIMIT];

        boolean hasType(int type) {
            return type >= 0 && type < typeTotal;
        }

        boolean hasConstructor(int constructor) {
            return constructor >= 0 && constructor < constructorTotal;
        }

        int typeOfArgument(int constructor, int k) {
            return argumentTypes[constructor * ARITY_LIMIT + k];
        }

        int define(int type, int arguments, int a, int b, int c) {
            int constructor = constructorTotal;
            resultTypes[constructor] = type;
            arities[constructor] = arguments;
            argumentTypes[constructor * ARITY_LIMIT] = a;
            argumentTypes[constructor * ARITY_LIMIT + 1] = b;
            argumentTypes[constructor * ARITY_LIMIT + 2] = c;
            constructorTotal++;
            return constructor;
        }
    }

    /** For each type the size of its smallest value and the number of its values of all sizes. */
    private static final class Population {
        private final Signature signature;
        final int[] smallest = new int[TYPE_LIMIT];
        final int[] totals = new int[TYPE_LIMIT];

        Population(Signature signature) {
            this.signature = signature;
            Arrays.fill(smallest, NONE);
        }

        void recompute() {
            findSmallest();
            findTotals();
        }

        // A smallest value repeats no type on its way down, so one round for each type is enough.
        private void findSmallest() {
            Arrays.fill(smallest, NONE);
            for (int round = 0; round < TYPE_LIMIT; round++) {
                for (int constructor = 0; constructor < signature.constructorTotal; constructor++) {
                    improveSmallest(constructor);
                }
            }
        }

        private void improveSmallest(int constructor) {
            if (!isUsable(constructor)) {
                return;
            }
            int size = 1;
            for (int k = 0; k < signature.arities[constructor]; k++) {
                size += smallest[signature.typeOfArgument(constructor, k)];
            }
            int type = signature.resultTypes[constructor];
            if (smallest[type] == NONE || size < smallest[type]) {
                smallest[type] = size;
            }
        }

        /** Tells whether each argument type is known to have a value. */
        private boolean isUsable(int constructor) {
            for (int k = 0; k < signature.arities[constructor]; k++) {
                if (smallest[signature.typeOfArgument(constructor, k)] == NONE) {
                    return false;
                }
            }
            return true;
        }

        // A type is finite if its usable constructors lead to finite types only. What is not found
        // finite after one round for each type leads into a circle of types, and is infinite.
        private void findTotals() {
            Arrays.fill(totals, INFINITE);
            for (int round = 0; round < TYPE_LIMIT; round++) {
                for (int type = 0; type < TYPE_LIMIT; type++) {
                    totals[type] = totalOfType(type);
                }
            }
        }

        private int totalOfType(int type) {
            int total = 0;
            for (int constructor = 0; constructor < signature.constructorTotal; constructor++) {
                if (signature.resultTypes[constructor] == type && isUsable(constructor)) {
                    int part = totalOfConstructor(constructor);
                    if (part == INFINITE) {
                        return INFINITE;
                    }
                    total = limitedSum(total, part);
                }
            }
            return total;
        }

        private int totalOfConstructor(int constructor) {
            int product = 1;
            for (int k = 0; k < signature.arities[constructor]; k++) {
                int factor = totals[signature.typeOfArgument(constructor, k)];
                if (factor == INFINITE) {
                    return INFINITE;
                }
                product = limitedProduct(product, factor);
            }
            return product;
        }
    }

    /** A way to look into values named by numbers; equal values of a type have the same number. */
    private interface Values {
        /** Tells whether a constructor of the type of the value is at its root. */
        boolean isBuiltBy(int value, int constructor);

        /** Writes the arguments of the constructor at the root of the value into parts. */
        void split(int value, int constructor, int[] parts);
    }

    /**
     * The order of the values up to VALUE_SIZE_LIMIT. A value of a known type is named by a key
     * made of its size and its index.
     */
    private static final class ValueOrder implements Values {
        private final Signature signature;
        private final int[] counts = new int[TYPE_LIMIT * SIZE_SPAN];
        // How many values of a result type and size have a smaller constructor at the root.
        private final int[] starts = new int[CONSTRUCTOR_LIMIT * SIZE_SPAN];
        // How many choices of the arguments from k on have a total size.
        private final int[] ways = new int[CONSTRUCTOR_LIMIT * (ARITY_LIMIT + 1) * SIZE_SPAN];

        ValueOrder(Signature signature) {
            this.signature = signature;
        }

        static int keyOf(int size, int index) {
            return size * MANY + index;
        }

        static int sizeOfKey(int key) {
            return key / MANY;
        }

        static int indexOfKey(int key) {
            return key % MANY;
        }

        int countOf(int type, int size) {
            return counts[type * SIZE_SPAN + size];
        }

        // Arguments are smaller than the whole, so the sizes are filled from small to great.
        void recompute() {
            Arrays.fill(counts, 0);
            for (int size = 1; size <= VALUE_SIZE_LIMIT; size++) {
                for (int constructor = 0; constructor < signature.constructorTotal; constructor++) {
                    fillWays(constructor, size - 1);
                    int place = signature.resultTypes[constructor] * SIZE_SPAN + size;
                    starts[constructor * SIZE_SPAN + size] = counts[place];
                    counts[place] = limitedSum(counts[place], waysOf(constructor, 0, size - 1));
                }
            }
        }

        private void fillWays(int constructor, int total) {
            int arguments = signature.arities[constructor];
            ways[wayPlace(constructor, arguments, total)] = total == 0 ? 1 : 0;
            for (int k = arguments - 1; k >= 0; k--) {
                int sum = 0;
                for (int first = 1; first <= total; first++) {
                    sum = limitedSum(sum, waysOfSplit(constructor, k, first, total));
                }
                ways[wayPlace(constructor, k, total)] = sum;
            }
        }

        private static int wayPlace(int constructor, int k, int total) {
            return (constructor * (ARITY_LIMIT + 1) + k) * SIZE_SPAN + total;
        }

        private int waysOf(int constructor, int k, int total) {
            return ways[wayPlace(constructor, k, total)];
        }

        /** Counts the choices of the arguments from k on with argument k of the size first. */
        private int waysOfSplit(int constructor, int k, int first, int total) {
            return limitedProduct(counts[signature.typeOfArgument(constructor, k) * SIZE_SPAN + first],
                    ways[wayPlace(constructor, k + 1, total - first)]);
        }

        public boolean isBuiltBy(int key, int constructor) {
            int size = sizeOfKey(key);
            int offset = indexOfKey(key) - starts[constructor * SIZE_SPAN + size];
            return offset >= 0 && offset < waysOf(constructor, 0, size - 1);
        }

        int rootOf(int type, int key) {
            for (int constructor = 0; constructor < signature.constructorTotal; constructor++) {
                if (signature.resultTypes[constructor] == type && isBuiltBy(key, constructor)) {
                    return constructor;
                }
            }
            return NO_CONSTRUCTOR;
        }

        public void split(int key, int constructor, int[] parts) {
            int left = sizeOfKey(key) - 1;
            int offset = indexOfKey(key) - starts[constructor * SIZE_SPAN + left + 1];
            for (int k = 0; k < signature.arities[constructor]; k++) {
                int first = 1;
                for (; first < left; first++) {
                    int skipped = waysOfSplit(constructor, k, first, left);
                    if (offset < skipped) {
                        break;
                    }
                    offset -= skipped;
                }
                int later = Math.max(1, waysOf(constructor, k + 1, left - first));
                parts[k] = keyOf(first, offset / later);
                offset %= later;
                left -= first;
            }
        }

        /** Answers the index of a value, at most MANY, from the sizes and indices of its parts. */
        int indexOf(int constructor, int size, int[] partSizes, int[] partIndices) {
            int index = starts[constructor * SIZE_SPAN + size];
            int left = size - 1;
            for (int k = 0; k < signature.arities[constructor]; k++) {
                for (int first = 1; first < partSizes[k]; first++) {
                    index = limitedSum(index, waysOfSplit(constructor, k, first, left));
                }
                left -= partSizes[k];
                index = limitedSum(index,
                        limitedProduct(partIndices[k], waysOf(constructor, k + 1, left)));
            }
            return index;
        }
    }

    /** The nodes and the bindings of the variables among them. */
    private static final class Nodes {
        private final Signature signature;
        int total;
        final int[] types = new int[NODE_LIMIT];
        final int[] constructors = new int[NODE_LIMIT];
        final int[] children = new int[NODE_LIMIT * ARITY_LIMIT];
        // FREE for all but bound variables, for places of nodes still to come too.
        final int[] targets = new int[NODE_LIMIT];

        Nodes(Signature signature) {
            this.signature = signature;
            Arrays.fill(targets, FREE);
        }

        boolean contains(int node) {
            return node >= 0 && node < total;
        }

        int addVariable(int type) {
            int node = total;
            types[node] = type;
            constructors[node] = NO_CONSTRUCTOR;
            total++;
            return node;
        }

        int addConstructed(int constructor, int a, int b, int c) {
            int node = total;
            fill(node, constructor);
            children[node * ARITY_LIMIT] = a;
            children[node * ARITY_LIMIT + 1] = b;
            children[node * ARITY_LIMIT + 2] = c;
            total++;
            return node;
        }

        void fill(int node, int constructor) {
            types[node] = signature.resultTypes[constructor];
            constructors[node] = constructor;
        }

        boolean isVariable(int node) {
            return constructors[node] == NO_CONSTRUCTOR;
        }

        int partTotal(int node) {
            return isVariable(node) ? 0 : signature.arities[constructors[node]];
        }

        int resolvedPart(int node, int k) {
            return resolve(children[node * ARITY_LIMIT + k]);
        }

        // Bindings have no circles, so a chain of them is shorter than the number of nodes.
        int resolve(int node) {
            int resolved = node;
            for (int step = 0; step < NODE_LIMIT && targets[resolved] != FREE; step++) {
                resolved = targets[resolved];
            }
            return resolved;
        }

        int countBound() {
            int bound = 0;
            for (int node = 0; node < total; node++) {
                if (targets[node] != FREE) {
                    bound++;
                }
            }
            return bound;
        }
    }

    /** Creates the nodes of a value from its place in the order. */
    private static final class ValueBuilder {
        private final Signature signature;
        private final ValueOrder valueOrder;
        private final Nodes nodes;
        private final int[] waitingTypes = new int[VALUE_SIZE_LIMIT];
        private final int[] waitingKeys = new int[VALUE_SIZE_LIMIT];
        // Where in the children of all nodes the number of the waiting part belongs.
        private final int[] waitingPlaces = new int[VALUE_SIZE_LIMIT];
        private int waiting;
        private final int[] parts = new int[ARITY_LIMIT];

        ValueBuilder(Signature signature, ValueOrder valueOrder, Nodes nodes) {
            this.signature = signature;
            this.valueOrder = valueOrder;
            this.nodes = nodes;
        }

        // Going down from the root with the last part first, and giving numbers downwards, puts
        // each part before its whole and first parts before later ones.
        int build(int type, int size, int index) {
            int firstNode = nodes.total;
            int root = firstNode + size - 1;
            waiting = 0;
            await(type, ValueOrder.keyOf(size, index), NONE);
            for (int node = root; node >= firstNode && waiting > 0; node--) {
                waiting--;
                place(node, waitingTypes[waiting], waitingKeys[waiting], waitingPlaces[waiting]);
            }
            nodes.total += size;
            return root;
        }

        private void place(int node, int type, int key, int place) {
            int constructor = valueOrder.rootOf(type, key);
            if (constructor == NO_CONSTRUCTOR) {
                return;
            }
            nodes.fill(node, constructor);
            if (place != NONE) {
                nodes.children[place] = node;
            }
            valueOrder.split(key, constructor, parts);
            for (int k = 0; k < signature.arities[constructor]; k++) {
                await(signature.typeOfArgument(constructor, k), parts[k], node * ARITY_LIMIT + k);
            }
        }

        private void await(int type, int key, int place) {
            if (waiting < VALUE_SIZE_LIMIT) {
                waitingTypes[waiting] = type;
                waitingKeys[waiting] = key;
                waitingPlaces[waiting] = place;
                waiting++;
            }
        }
    }

    /** Lists the resolved nodes in the terms of nodes: parts before wholes, shared ones once. */
    private static final class Walk {
        private final Nodes nodes;
        final int[] order = new int[NODE_LIMIT];
        int length;
        private int number;
        // The number of the walk that listed the node last: so nothing must be wiped between walks.
        private final int[] listedIn = new int[NODE_LIMIT];
        private final int[] path = new int[NODE_LIMIT];

        Walk(Nodes nodes) {
            this.nodes = nodes;
        }

        void begin() {
            number++;
            length = 0;
        }

        boolean hasListed(int node) {
            return listedIn[node] == number;
        }

        // An own path in place of recursion, as terms can be a hundred nodes deep.
        void visit(int node) {
            int top = nodes.resolve(node);
            if (hasListed(top)) {
                return;
            }
            path[0] = top;
            int depth = 1;
            for (int step = 0; depth > 0 && step < STEP_LIMIT; step++) {
                int last = path[depth - 1];
                int part = unlistedPart(last);
                if (part != NONE && depth < NODE_LIMIT) {
                    path[depth] = part;
                    depth++;
                } else {
                    list(last);
                    depth--;
                }
            }
        }

        private int unlistedPart(int node) {
            for (int k = 0; k < nodes.partTotal(node); k++) {
                int part = nodes.resolvedPart(node, k);
                if (!hasListed(part)) {
                    return part;
                }
            }
            return NONE;
        }

        private void list(int node) {
            if (length < NODE_LIMIT) {
                listedIn[node] = number;
                order[length] = node;
                length++;
            }
        }
    }

    /** Reads off terms: their sizes, indices and equality. Its values are canonical nodes. */
    private static final class TermReader implements Values {
        private final Nodes nodes;
        private final ValueOrder valueOrder;
        private final Walk walk;
        private final int[] sizes = new int[NODE_LIMIT];
        private final int[] indices = new int[NODE_LIMIT];
        // The first node in the walk with an equal term.
        private final int[] canonical = new int[NODE_LIMIT];
        private final int[] partSizes = new int[ARITY_LIMIT];
        private final int[] partIndices = new int[ARITY_LIMIT];

        TermReader(Nodes nodes, ValueOrder valueOrder) {
            this.nodes = nodes;
            this.valueOrder = valueOrder;
            this.walk = new Walk(nodes);
        }

        /** Answers the size of the term of a node, at most MANY, or NOT_GROUND. */
        int measure(int node) {
            walk.begin();
            walk.visit(node);
            for (int i = 0; i < walk.length; i++) {
                sizes[walk.order[i]] = sizeFromParts(walk.order[i]);
            }
            return sizes[nodes.resolve(node)];
        }

        private int sizeFromParts(int node) {
            if (nodes.isVariable(node)) {
                return NOT_GROUND;
            }
            int sum = 1;
            for (int k = 0; k < nodes.partTotal(node); k++) {
                int partSize = sizes[nodes.resolvedPart(node, k)];
                if (partSize == NOT_GROUND) {
                    return NOT_GROUND;
                }
                sum = limitedSum(sum, partSize);
            }
            return sum;
        }

        /** Answers the index, at most MANY, of the term measured last, of at most VALUE_SIZE_LIMIT. */
        int indexAmongValues(int node) {
            for (int i = 0; i < walk.length; i++) {
                int part = walk.order[i];
                for (int k = 0; k < nodes.partTotal(part); k++) {
                    partSizes[k] = sizes[nodes.resolvedPart(part, k)];
                    partIndices[k] = indices[nodes.resolvedPart(part, k)];
                }
                indices[part] = valueOrder.indexOf(
                        nodes.constructors[part], sizes[part], partSizes, partIndices);
            }
            return indices[nodes.resolve(node)];
        }

        boolean sameTerm(int a, int b) {
            walk.begin();
            walk.visit(a);
            walk.visit(b);
            findCanonical();
            return canonical[nodes.resolve(a)] == canonical[nodes.resolve(b)];
        }

        int canonicalNode(int node) {
            walk.begin();
            walk.visit(node);
            findCanonical();
            return canonical[nodes.resolve(node)];
        }

        private void findCanonical() {
            for (int i = 0; i < walk.length; i++) {
                int node = walk.order[i];
                canonical[node] = node;
                for (int j = 0; j < i; j++) {
                    if (haveEqualParts(node, walk.order[j])) {
                        canonical[node] = canonical[walk.order[j]];
                        break;
                    }
                }
            }
        }

        private boolean haveEqualParts(int a, int b) {
            if (nodes.isVariable(a) || nodes.constructors[a] != nodes.constructors[b]) {
                return false;
            }
            for (int k = 0; k < nodes.partTotal(a); k++) {
                if (canonical[nodes.resolvedPart(a, k)] != canonical[nodes.resolvedPart(b, k)]) {
                    return false;
                }
            }
            return true;
        }

        public boolean isBuiltBy(int value, int constructor) {
            return nodes.constructors[value] == constructor;
        }

        public void split(int value, int constructor, int[] parts) {
            for (int k = 0; k < nodes.partTotal(value); k++) {
                parts[k] = canonical[nodes.resolvedPart(value, k)];
            }
        }
    }

    /** Unifies nodes, with an own stack of the pairs that wait. */
    private static final class Unifier {
        // Each of at most NODE_LIMIT levels leaves at most two pairs waiting, the last one three.
        private static final int WAITING_LIMIT = NODE_LIMIT * ARITY_LIMIT;
        private static final int WORD_BITS = 64;

        private final Nodes nodes;
        private final Walk walk;
        private final int[] before = new int[NODE_LIMIT];
        private final int[] waitingLeft = new int[WAITING_LIMIT];
        private final int[] waitingRight = new int[WAITING_LIMIT];
        private int waiting;
        // One bit for each pair of constructor nodes whose children have been unified in this run.
        // To do them again could change nothing, and with shared nodes would take for ever.
        private final long[] opened = new long[NODE_LIMIT * NODE_LIMIT / WORD_BITS + 1];

        Unifier(Nodes nodes) {
            this.nodes = nodes;
            this.walk = new Walk(nodes);
        }

        /** Answers UNIFIED, CLASH or CYCLE; the bindings change only with UNIFIED. */
        int run(int a, int b) {
            System.arraycopy(nodes.targets, 0, before, 0, NODE_LIMIT);
            Arrays.fill(opened, 0L);
            waiting = 0;
            await(a, b);
            int outcome = UNIFIED;
            for (int step = 0; outcome == UNIFIED && waiting > 0 && step < STEP_LIMIT; step++) {
                waiting--;
                outcome = unifyResolved(nodes.resolve(waitingLeft[waiting]),
                        nodes.resolve(waitingRight[waiting]));
            }
            if (outcome != UNIFIED) {
                System.arraycopy(before, 0, nodes.targets, 0, NODE_LIMIT);
            }
            return outcome;
        }

        private int unifyResolved(int a, int b) {
            if (a == b) {
                return UNIFIED;
            }
            if (nodes.isVariable(a) && nodes.isVariable(b)) {
                nodes.targets[Math.max(a, b)] = Math.min(a, b);
                return UNIFIED;
            }
            if (nodes.isVariable(a)) {
                return bindToTerm(a, b);
            }
            if (nodes.isVariable(b)) {
                return bindToTerm(b, a);
            }
            if (nodes.constructors[a] != nodes.constructors[b]) {
                return CLASH;
            }
            open(a, b);
            return UNIFIED;
        }

        private int bindToTerm(int variable, int node) {
            walk.begin();
            walk.visit(node);
            if (walk.hasListed(variable)) {
                return CYCLE;
            }
            nodes.targets[variable] = node;
            return UNIFIED;
        }

        private void open(int a, int b) {
            int pair = a * NODE_LIMIT + b;
            long bit = 1L << (pair % WORD_BITS);
            if ((opened[pair / WORD_BITS] & bit) != 0L) {
                return;
            }
            opened[pair / WORD_BITS] |= bit;
            // The last children wait longest.
            for (int k = nodes.partTotal(a) - 1; k >= 0; k--) {
                await(nodes.children[a * ARITY_LIMIT + k], nodes.children[b * ARITY_LIMIT + k]);
            }
        }

        private void await(int a, int b) {
            if (waiting < WAITING_LIMIT) {
                waitingLeft[waiting] = a;
                waitingRight[waiting] = b;
                waiting++;
            }
        }
    }

    /** The stack of saved bindings. */
    private static final class SavedBindings {
        int total;
        private final int[] targets = new int[SAVED_LIMIT * NODE_LIMIT];

        void save(int[] current) {
            System.arraycopy(current, 0, targets, total * NODE_LIMIT, NODE_LIMIT);
            total++;
        }

        void restore(int[] current) {
            total--;
            System.arraycopy(targets, total * NODE_LIMIT, current, 0, NODE_LIMIT);
        }
    }

    /** The rows, and the matching of values against them. */
    private static final class Rows {
        private final Nodes nodes;
        int total;
        private final int[] patterns = new int[ROW_LIMIT];
        private int matchNumber;
        // What a variable stands for in the match with this number: older entries count as none.
        private final int[] givenIn = new int[NODE_LIMIT];
        private final int[] givenValues = new int[NODE_LIMIT];
        // What waits are distinct places in the value, so never more than its size.
        private final int[] waitingPatterns = new int[MATCH_SIZE_LIMIT];
        private final int[] waitingValues = new int[MATCH_SIZE_LIMIT];
        private int waiting;
        private final int[] parts = new int[ARITY_LIMIT];

        Rows(Nodes nodes) {
            this.nodes = nodes;
        }

        int subjectType() {
            return nodes.types[patterns[0]];
        }

        int append(int pattern) {
            int row = total;
            patterns[row] = pattern;
            total++;
            return row;
        }

        /** Answers the first row whose pattern a value of the subject type matches, or NONE. */
        int firstFitting(Values values, int value) {
            for (int row = 0; row < total; row++) {
                if (fits(patterns[row], values, value)) {
                    return row;
                }
            }
            return NONE;
        }

        private boolean fits(int pattern, Values values, int value) {
            matchNumber++;
            waiting = 0;
            await(pattern, value);
            boolean fitting = true;
            for (int step = 0; fitting && waiting > 0 && step < STEP_LIMIT; step++) {
                waiting--;
                fitting = fitsAtRoot(
                        nodes.resolve(waitingPatterns[waiting]), values, waitingValues[waiting]);
            }
            return fitting;
        }

        private boolean fitsAtRoot(int pattern, Values values, int value) {
            if (nodes.isVariable(pattern)) {
                return fitsVariable(pattern, value);
            }
            int constructor = nodes.constructors[pattern];
            if (!values.isBuiltBy(value, constructor)) {
                return false;
            }
            values.split(value, constructor, parts);
            for (int k = 0; k < nodes.partTotal(pattern); k++) {
                await(nodes.children[pattern * ARITY_LIMIT + k], parts[k]);
            }
            return true;
        }

        private boolean fitsVariable(int variable, int value) {
            if (givenIn[variable] == matchNumber) {
                return givenValues[variable] == value;
            }
            givenIn[variable] = matchNumber;
            givenValues[variable] = value;
            return true;
        }

        private void await(int pattern, int value) {
            if (waiting < MATCH_SIZE_LIMIT) {
                waitingPatterns[waiting] = pattern;
                waitingValues[waiting] = value;
                waiting++;
            }
        }
    }
}
