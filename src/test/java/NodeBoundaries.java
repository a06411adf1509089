/** The boundary cases of the promises 11 to 20. */
final class NodeBoundaries {
    private static final int MIN = Integer.MIN_VALUE;
    private static final int MAX = Integer.MAX_VALUE;
    private final Boundaries b;

    NodeBoundaries(Boundaries b) {
        this.b = b;
    }

    void run() {
        variable();
        termIgnores();
        termConstructor();
        termChildren();
        termTypes();
        termFull();
        nodeCount();
        nodeType();
        head();
        child();
        binding();
        size();
        sizeAtMany();
        rankOrderOfChecks();
        rankOfSize12();
        rankAtMany();
        rankOfPartsAtMany();
        equalNodes();
        equalTerms();
    }

    private void variable() {
        b.says(11, "Creates a free variable of a type; returns the node;");
        Counted x = Boundaries.withTypes(4);
        for (int type = 0; type < 4; type++) {
            b.due("variable(" + type + ")", x.variable(type), type);
            b.due("its type", x.nodeType(type), type);
            b.due("it is free", x.binding(type), -13);
            b.due("it has no head", x.head(type), -13);
        }
        b.says(11, "NO_SUCH_TYPE if there is no such type (checked first);");
        for (int type : new int[] {MIN, -1, 3, 4, MAX}) {
            b.refused("variable(" + type + ")", States::worked, y -> y.variable(type), -1);
        }
        for (int type : new int[] {MIN, -1, 4, 5, MAX}) {
            b.refused("before full: variable(" + type + ")", States::full, y -> y.variable(type), -1);
        }
        b.says(11, "FULL if there are 100 nodes.");
        b.due("the 99th", Boundaries.treesWithVariables(98).variable(0), 98);
        b.due("the 100th", Boundaries.treesWithVariables(99).variable(0), 99);
        b.refused("the 101st", () -> Boundaries.treesWithVariables(100), y -> y.variable(0), -6);
        b.refused("the 101st, of the last type", States::full, y -> y.variable(3), -6);
    }

    private void termIgnores() {
        b.says(12, "Creates a constructor node. Arguments beyond the arity are ignored.");
        for (int ignored : new int[] {MIN, -1, 1, 3, 100, MAX}) {
            Counted x = Boundaries.withTypes(2);
            x.addConstructor(0, 0, 0, 0, 0);
            for (int arity = 1; arity <= 3; arity++) {
                x.addConstructor(0, arity, 0, 0, 0);
            }
            x.variable(0);
            x.variable(1);
            // Where 1 is ignored, it is a node of another type.
            b.due("three ignored", x.term(0, ignored, ignored, ignored), 2);
            b.due("two ignored", x.term(1, 0, ignored, ignored), 3);
            b.due("one ignored", x.term(2, 0, 0, ignored), 4);
            b.due("no child of 0", x.child(2, 0), -13);
            b.due("no child 1", x.child(3, 1), -13);
            b.due("no child 2", x.child(4, 2), -13);
            b.due("not ground by its child alone", x.size(4), -9);
            b.due("ground, whatever was ignored", x.size(2), 1);
            b.due("three others ignored", x.term(0, 0, 1, 2), 5);
            b.due("two others ignored", x.term(1, 0, 1, 2), 6);
            b.due("one other ignored", x.term(2, 0, 0, 2), 7);
            for (int node = 2; node <= 4; node++) {
                b.due("equal, whatever was ignored", x.equal(node, node + 3), 1);
                b.due("unified, whatever was ignored", x.unify(node, node + 3), 1);
            }
            b.due("nothing was bound for it", x.boundCount(), 0);
        }
    }

    private void termConstructor() {
        b.says(12, "NO_SUCH_CONSTRUCTOR if there is no such constructor (checked first);");
        for (int constructor : new int[] {MIN, -1, 6, 7, MAX}) {
            b.refused("term(" + constructor + ", ..)", States::worked,
                    x -> x.term(constructor, States.FLAG, States.EMPTY_LIST, States.FLAG), -2);
            b.refused("before a missing node: term(" + constructor + ", ..)", States::worked,
                    x -> x.term(constructor, -1, 100, MIN), -2);
        }
        for (int constructor : new int[] {MIN, -1, 12, MAX}) {
            b.refused("before full: term(" + constructor + ", ..)", States::full,
                    x -> x.term(constructor, -1, 100, MIN), -2);
        }
        b.due("the last constructor", States.worked().term(5, States.VOID, 0, 0), States.WORKED_NODES);
        b.due("the first constructor", States.worked().term(0, 0, 0, 0), States.WORKED_NODES);
    }

    private void termChildren() {
        b.says(12, "a: first child");
        b.says(12, "b: second child");
        b.says(12, "c: third child");
        b.says(12, "Returns the node;");
        Counted x = Boundaries.treesWithVariables(3);
        b.due("three children", x.term(3, 2, 0, 1), 3);
        b.due("as given", new int[] {x.child(3, 0), x.child(3, 1), x.child(3, 2)}, 2, 0, 1);
        b.due("the greatest node as a child", x.term(1, 3, 0, 0), 4);
        b.due("the next node is no child yet", x.term(1, 5, 0, 0), -3);
        b.says(12, "NO_SUCH_NODE if a child that is not ignored does not exist (checked second);");
        int next = States.WORKED_NODES;
        int list = States.EMPTY_LIST;
        int flag = States.FLAG;
        for (int missing : new int[] {MIN, -1, next, next + 1, MAX}) {
            b.refused("the only one: " + missing, States::worked, y -> y.term(States.LOOP, missing, 0, 0), -3);
            b.refused("first of two: " + missing, States::worked, y -> y.term(States.CONS, missing, list, 0), -3);
            b.refused("second of two: " + missing, States::worked, y -> y.term(States.CONS, flag, missing, 0), -3);
            b.refused("first of three: " + missing, States::worked,
                    y -> y.term(States.TRIPLE, missing, flag, list), -3);
            b.refused("second of three: " + missing, States::worked,
                    y -> y.term(States.TRIPLE, list, missing, list), -3);
            b.refused("third of three: " + missing, States::worked,
                    y -> y.term(States.TRIPLE, list, flag, missing), -3);
            b.refused("before wrong types to its left: " + missing, States::worked,
                    y -> y.term(States.TRIPLE, flag, list, missing), -3);
            b.refused("before wrong types to its right: " + missing, States::worked,
                    y -> y.term(States.TRIPLE, missing, list, flag), -3);
        }
        for (int missing : new int[] {MIN, -1, 100, MAX}) {
            b.refused("before full: " + missing, States::full, y -> y.term(States.CONS, flag, missing, 0), -3);
            b.refused("before wrong type and full: " + missing, States::full,
                    y -> y.term(States.CONS, list, missing, 0), -3);
        }
    }

    private void termTypes() {
        b.says(12, "WRONG_TYPE if the type of such a child is not the type of the argument (checked third);");
        int list = States.EMPTY_LIST;
        int flag = States.FLAG;
        int[][] wrong = {
            {States.LOOP, flag, 0, 0}, {States.LOOP, list, 0, 0},
            {States.CONS, list, list, 0}, {States.CONS, flag, flag, 0}, {States.CONS, list, flag, 0},
            {States.TRIPLE, flag, flag, list}, {States.TRIPLE, list, list, list}, {States.TRIPLE, list, flag, flag},
            {States.CONS, States.FREE_LIST, list, 0}, {States.CONS, flag, States.BOUND_FLAG, 0},
            {States.CONS, flag, States.VOID, 0},
        };
        for (int[] call : wrong) {
            String name = "term(" + call[0] + ", " + call[1] + ", " + call[2] + ", " + call[3] + ")";
            b.refused(name, States::worked, x -> x.term(call[0], call[1], call[2], call[3]), -5);
            b.refused("before full: " + name, States::full, x -> x.term(call[0], call[1], call[2], call[3]), -5);
        }
        b.due("variables of the right types, free or bound",
                States.worked().term(States.CONS, States.BOUND_FLAG, States.FREE_LIST, 0), States.WORKED_NODES);
    }

    private void termFull() {
        b.says(12, "FULL if there are 100 nodes.");
        for (int constructor = 0; constructor <= 3; constructor++) {
            int wanted = constructor;
            b.due("the 99th", Boundaries.treesWithVariables(98).term(wanted, 0, 0, 0), 98);
            Counted x = Boundaries.treesWithVariables(99);
            b.due("the 100th", x.term(wanted, 98, 98, 98), 99);
            b.due("its head", x.head(99), wanted);
            b.refused("the 101st", () -> Boundaries.treesWithVariables(100), y -> y.term(wanted, 0, 99, 0), -6);
        }
    }

    private void nodeCount() {
        b.says(13, "Returns the number of nodes.");
        Counted x = Boundaries.trees();
        b.due("none", x.nodeCount(), 0);
        for (int node = 0; node < 100; node++) {
            if (node % 2 == 0) {
                x.variable(0);
            } else {
                x.term(1, node - 1, 0, 0);
            }
            b.due("one more", x.nodeCount(), node + 1);
        }
        x.variable(0);
        b.due("never more than 100", x.nodeCount(), 100);
        x.unbindAll();
        x.clearRows();
        b.due("nodes are never removed", x.nodeCount(), 100);
    }

    private void nodeType() {
        b.says(14, "Returns the type of a node, or NO_SUCH_NODE.");
        Counted x = Boundaries.withTypes(4);
        x.addConstructor(3, 1, 2, 0, 0);
        x.variable(2);
        x.term(0, 0, 0, 0);
        x.variable(3);
        x.unify(2, 1);
        b.due("of the first node", x.nodeType(0), 2);
        b.due("of a constructor node: its result type", x.nodeType(1), 3);
        b.due("of a bound variable", x.nodeType(2), 3);
        for (int missing : new int[] {MIN, -1, 3, 100, MAX}) {
            b.due("nodeType(" + missing + ")", x.nodeType(missing), -3);
        }
        b.due("of the 100th node", States.full().nodeType(99), 1);
        b.refused("there is no 101st", States::full, y -> y.nodeType(100), -3);
    }

    private void head() {
        b.says(15, "Returns the constructor of the resolved node;");
        b.says("To resolve a node means: while it is a bound variable, replace it by the node to which it is bound.");
        Counted x = chainOfBindings();
        b.due("over 99 bindings", x.head(99), 0);
        b.due("over one binding", x.head(1), 0);
        b.due("over none", x.head(0), 0);
        b.says(15, "NONE if that is a free variable;");
        b.due("of a free variable", States.worked().head(States.FREE_FLAG), -13);
        Counted free = Boundaries.treesWithVariables(100);
        for (int node = 99; node > 0; node--) {
            free.unify(node, node - 1);
        }
        b.due("over 99 bindings, free at the end", free.head(99), -13);
        b.says(15, "NO_SUCH_NODE if there is no such node.");
        for (int missing : new int[] {MIN, -1, 100, 101, MAX}) {
            b.due("head(" + missing + ")", x.head(missing), -3);
        }
        b.due("the next node", States.worked().head(States.WORKED_NODES), -3);
        b.due("the last node", States.worked().head(States.WORKED_NODES - 1), States.CONS);
    }

    /** Node 0 is a leaf; each of the 99 variables is bound to the node before it. */
    private static Counted chainOfBindings() {
        Counted x = Boundaries.trees();
        x.term(0, 0, 0, 0);
        for (int node = 1; node < 100; node++) {
            x.variable(0);
        }
        for (int node = 99; node > 0; node--) {
            x.unify(node, node - 1);
        }
        return x;
    }

    private void child() {
        b.says(16, "Returns child k (from 0) of the resolved node, as it was given when that node was created"
                + " (not resolved);");
        Counted x = Boundaries.treesWithVariables(5);
        for (int arity = 0; arity <= 3; arity++) {
            x.term(arity, 2, 1, 0);
        }
        x.unify(2, 1);
        x.unify(1, 0);
        x.unify(0, 5);
        x.unify(4, 3);
        x.unify(3, 8);
        for (int arity = 0; arity <= 3; arity++) {
            for (int k = 0; k < arity; k++) {
                b.due("child(" + (5 + arity) + ", " + k + ")", x.child(5 + arity, k), 2 - k);
            }
        }
        b.due("of a node resolved over two bindings",
                new int[] {x.child(4, 0), x.child(4, 1), x.child(4, 2)}, 2, 1, 0);
        b.says(16, "NONE if the resolved node has no such child.");
        for (int arity = 0; arity <= 3; arity++) {
            for (int k : new int[] {MIN, -1, arity, arity + 1, MAX}) {
                b.due("child(" + (5 + arity) + ", " + k + ")", x.child(5 + arity, k), -13);
            }
        }
        for (int k : new int[] {MIN, -1, 3, MAX}) {
            b.due("of a bound variable: " + k, x.child(4, k), -13);
        }
        for (int k : new int[] {MIN, -1, 0, 1, 2, 3, MAX}) {
            b.due("bound to a leaf: " + k, x.child(2, k), -13);
            b.due("of a free variable: " + k, States.worked().child(States.FREE_LIST, k), -13);
        }
        b.says(16, "NO_SUCH_NODE if there is no such node (checked first);");
        for (int missing : new int[] {MIN, -1, 9, MAX}) {
            for (int k : new int[] {MIN, -1, 0, 3, MAX}) {
                b.due("child(" + missing + ", " + k + ")", x.child(missing, k), -3);
            }
        }
        b.due("the 100th node has no children", States.full().child(99, 0), -13);
        b.refused("there is no 101st", States::full, y -> y.child(100, 0), -3);
    }

    private void binding() {
        b.says(17, "Returns the node to which a variable is bound (not resolved further);");
        Counted x = chainOfBindings();
        for (int node = 1; node < 100; node++) {
            b.due("binding(" + node + ")", x.binding(node), node - 1);
        }
        b.says(17, "NONE if the node is a free variable or a constructor node;");
        b.due("of a constructor node", x.binding(0), -13);
        b.due("of a free variable", States.worked().binding(States.FREE_LIST), -13);
        b.due("of a constructor node with bound children", States.worked().binding(States.CLASHES), -13);
        x.unbindAll();
        b.due("free again", x.binding(99), -13);
        b.says(17, "NO_SUCH_NODE if there is no such node.");
        for (int missing : new int[] {MIN, -1, 100, 101, MAX}) {
            b.due("binding(" + missing + ")", x.binding(missing), -3);
        }
        b.due("the next node", States.worked().binding(States.WORKED_NODES), -3);
        b.due("the last node", States.worked().binding(States.WORKED_NODES - 1), -13);
    }

    private void size() {
        b.says(18, "NO_SUCH_NODE if there is no such node (checked first);");
        for (int missing : new int[] {MIN, -1, States.WORKED_NODES, MAX}) {
            b.refused("size(" + missing + ")", States::worked, x -> x.size(missing), -3);
        }
        b.due("the last node", States.worked().size(States.WORKED_NODES - 1), 3);
        b.says(18, "NOT_GROUND if the term is not ground.");
        b.says("A term is ground if no free variable occurs in it; then it is a value.");
        for (int place = 0; place < 3; place++) {
            Counted x = Boundaries.treesWithVariables(1);
            x.term(0, 0, 0, 0);
            x.term(3, place == 0 ? 0 : 1, place == 1 ? 0 : 1, place == 2 ? 0 : 1);
            b.due("free at place " + place, x.size(2), -9);
            x.unify(0, 1);
            b.due("bound to a leaf at place " + place, x.size(2), 4);
            x.unbindAll();
            b.due("free again", x.size(2), -9);
        }
        Counted free = Boundaries.treesWithVariables(2);
        b.due("a free variable", free.size(0), -9);
        free.unify(0, 1);
        b.due("bound to a free variable", free.size(1), -9);
        Counted deep = Boundaries.treesWithVariables(1);
        for (int node = 1; node < 100; node++) {
            deep.term(1, node - 1, 0, 0);
        }
        b.due("free 99 levels below", deep.size(99), -9);
        Counted ground = Boundaries.trees();
        ground.term(0, 0, 0, 0);
        for (int node = 1; node < 100; node++) {
            ground.term(1, node - 1, 0, 0);
        }
        b.due("99 levels, ground", ground.size(99), 100);
        b.due("over 99 bindings", chainOfBindings().size(99), 1);
    }

    /** A term with a size, which must be at least 1: an odd one doubles, an even one adds 1. */
    private static int termOfSize(Counted x, int size) {
        if (size <= 1) {
            return x.term(0, 0, 0, 0);
        }
        int part = termOfSize(x, size % 2 == 0 ? size - 1 : size / 2);
        return size % 2 == 0 ? x.term(1, part, 0, 0) : x.term(2, part, part, 0);
    }

    private void sizeAtMany() {
        b.says(18, "Returns the number of constructor occurrences in the term of a node, at most MANY;");
        b.says("The size of a value is the number of constructor occurrences in it.");
        b.says("A node can be the child of several nodes.");
        for (int size : new int[] {1, 2, 3, 12, 13, 60, 61, 500000, 999998, 999999, 1000000}) {
            Counted x = Boundaries.trees();
            b.due("size " + size, x.size(termOfSize(x, size)), size);
        }
        for (int size : new int[] {1000001, 1000002, 1999999, 2000001, MAX}) {
            Counted x = Boundaries.trees();
            b.due("size " + size + " is cut", x.size(termOfSize(x, size)), 1000000);
        }
        Counted huge = Boundaries.trees();
        int variable = huge.variable(0);
        int node = huge.term(0, 0, 0, 0);
        for (int i = 2; i < 98; i++) {
            node = huge.term(3, node, node, node);
        }
        b.due("far above what a long holds", huge.size(node), 1000000);
        int last = huge.term(2, node, variable, 0);
        b.due("not ground, however large", huge.size(last), -9);
        huge.unify(variable, node);
        b.due("ground by a binding", huge.size(last), 1000000);
    }

    private void rankOrderOfChecks() {
        b.says(19, "NO_SUCH_NODE if there is no such node (checked first);");
        for (int missing : new int[] {MIN, -1, States.WORKED_NODES, MAX}) {
            b.refused("rank(" + missing + ")", States::worked, x -> x.rank(missing), -3);
        }
        b.due("the last node", States.worked().rank(States.WORKED_NODES - 1), 1);
        b.says(19, "NOT_GROUND if the term is not ground (checked second);");
        b.refused("not ground", States::worked, x -> x.rank(States.PATTERN), -9);
        Counted x = Boundaries.trees();
        int variable = x.variable(0);
        int large = termOfSize(x, 1000001);
        int both = x.term(2, large, variable, 0);
        b.due("not ground before too large", x.rank(both), -9);
        b.due("not ground before too large, the other way", x.rank(x.term(2, variable, large, 0)), -9);
        b.due("too large", x.rank(large), -10);
        x.unify(variable, large);
        b.due("too large, when ground", x.rank(both), -10);
    }

    private void rankOfSize12() {
        b.says(19, "TOO_LARGE if its size is greater than 12");
        for (int size : new int[] {11, 12}) {
            Counted x = Boundaries.trees();
            int root = termOfSize(x, size);
            b.holds("size " + size + " has a rank", x.rank(root) >= 0);
        }
        for (int size : new int[] {13, 14, 60, 999999, 1000000, 1000001}) {
            Counted x = Boundaries.trees();
            b.due("size " + size, x.rank(termOfSize(x, size)), -10);
        }
        Counted chain = Boundaries.trees();
        int node = chain.term(0, 0, 0, 0);
        for (int size = 2; size <= 12; size++) {
            node = chain.term(1, node, 0, 0);
        }
        b.due("the first of size 12", chain.rank(node), 0);
        int variable = chain.variable(0);
        chain.unify(variable, node);
        b.due("by a binding", chain.rank(variable), 0);
        int longer = chain.term(1, variable, 0, 0);
        b.due("size 13 by a binding", chain.rank(longer), -10);
        Counted last = Boundaries.trees();
        int greatest = last.count(0, 12) - 1;
        b.due("the last of size 12", last.rank(last.value(0, 12, greatest)), greatest);
    }

    private void rankAtMany() {
        b.says(19, "Returns the index of the term of a node as a value;");
        b.says(19, "or its index is MANY or greater.");
        Counted x = TypeBoundaries.million();
        x.addConstructor(3, 1, 2, 0, 0);
        int last = x.value(3, 12, 999999);
        b.due("index 999999", x.rank(last), 999999);
        int before = x.value(3, 12, 999998);
        b.due("index 999998", x.rank(before), 999998);
        int chain = x.value(2, 11, 0);
        b.due("index 0", x.rank(chain), 0);
        int next = x.term(11, chain, 0, 0);
        b.due("its size", x.size(next), 12);
        b.due("index 1000000", x.rank(next), -10);
        Counted shorter = TypeBoundaries.million();
        shorter.addConstructor(3, 1, 2, 0, 0);
        int smaller = shorter.term(11, shorter.value(2, 10, 0), 0, 0);
        b.due("the last of size 11 has its index", shorter.rank(smaller), shorter.count(3, 11) - 1);
    }

    /** Type 0 has 10 leaves and triples, type 1 pairs of them. */
    private static Counted pairs() {
        Counted x = Boundaries.withTypes(2);
        for (int i = 0; i < 10; i++) {
            x.addConstructor(0, 0, 0, 0, 0);
        }
        x.addConstructor(0, 3, 0, 0, 0);
        x.addConstructor(1, 2, 0, 0, 0);
        return x;
    }

    private void rankOfPartsAtMany() {
        // Of size 9 the pairs with sizes (1, 7) come first: 10 * 300000.
        Counted x = pairs();
        int third = x.term(3, 0, 0, 0);
        int[] indices = {99998, 99999, 100000, 100001};
        int[] ranks = {999998, 999999, -10, -10};
        for (int i = 0; i < indices.length; i++) {
            int second = x.value(0, 7, indices[i]);
            b.due("3 * 300000 + " + indices[i], x.rank(x.term(11, third, second, 0)), ranks[i]);
        }
        // Type 0 has more than a million values of size 10, so parts alone have too great an index.
        Counted y = pairs();
        int large = y.value(0, 10, 999999);
        b.due("a part with index 999999", y.rank(large), 999999);
        int leaf = y.term(0, 0, 0, 0);
        b.due("before it 10 * 300000 * .. others", y.rank(y.term(11, large, leaf, 0)), -10);
        b.due("(leaf, part with index 999999)", y.rank(y.term(11, leaf, large, 0)), 999999);
        int greatest = y.term(9, 0, 0, 0);
        int greatest4 = y.term(10, greatest, greatest, greatest);
        int greatest7 = y.term(10, greatest4, greatest, greatest);
        int greatest10 = y.term(10, greatest7, greatest, greatest);
        b.due("the last of size 7", y.rank(greatest7), 299999);
        b.due("the last of size 10", y.rank(greatest10), -10);
        b.due("(leaf, last of size 10)", y.rank(y.term(11, leaf, greatest10, 0)), -10);
        b.due("(last leaf, first leaf)", y.rank(y.term(11, greatest, leaf, 0)), 90);
    }

    private void equalNodes() {
        b.says(20, "NO_SUCH_NODE if either node does not exist.");
        for (int missing : new int[] {MIN, -1, States.WORKED_NODES, MAX}) {
            b.refused("the first: " + missing, States::worked, x -> x.equal(missing, 0), -3);
            b.refused("the second: " + missing, States::worked, x -> x.equal(0, missing), -3);
            b.refused("both: " + missing, States::worked, x -> x.equal(missing, missing), -3);
        }
        b.due("the last node", States.worked().equal(States.WORKED_NODES - 1, States.WORKED_NODES - 1), 1);
        b.due("the 100th node", States.full().equal(99, 99), 1);
        b.unchanged("equal terms", States::worked, x -> x.equal(States.BOUND_LIST, States.CLASHES), 1);
        b.unchanged("different terms", States::worked, x -> x.equal(States.FREE_LIST, States.LISTED), 0);
        b.unchanged("nodes of two types", States::worked, x -> x.equal(States.FLAG, States.LISTED), 0);
    }

    private void equalTerms() {
        b.says(20, "Returns 1 if the terms of two nodes are equal, otherwise 0;");
        b.says("Two terms are equal if they have the same structure, the same constructors, and the same free"
                + " variables at the same places.");
        Counted x = Boundaries.treesWithVariables(2);
        x.addConstructor(0, 0, 0, 0, 0);
        x.addConstructor(0, 3, 0, 0, 0);
        int leaf = x.term(0, 0, 0, 0);
        int base = x.term(3, leaf, leaf, leaf);
        int otherLeaf = x.term(4, 0, 0, 0);
        b.due("other nodes", x.equal(base, x.term(3, leaf, x.term(0, 0, 0, 0), leaf)), 1);
        b.due("another constructor", x.equal(base, x.term(5, leaf, leaf, leaf)), 0);
        b.due("another first part", x.equal(base, x.term(3, otherLeaf, leaf, leaf)), 0);
        b.due("another second part", x.equal(base, x.term(3, leaf, otherLeaf, leaf)), 0);
        b.due("another third part", x.equal(base, x.term(3, leaf, leaf, otherLeaf)), 0);
        b.due("another structure", x.equal(base, x.term(2, leaf, leaf, 0)), 0);
        int free = x.term(2, 0, 1, 0);
        b.due("same variables", x.equal(free, x.term(2, 0, 1, 0)), 1);
        b.due("variables at other places", x.equal(free, x.term(2, 1, 0, 0)), 0);
        b.due("one variable twice", x.equal(free, x.term(2, 0, 0, 0)), 0);
        b.due("a variable and a leaf", x.equal(0, leaf), 0);
        b.due("a leaf and a variable", x.equal(leaf, 0), 0);
        x.unify(1, 0);
        b.due("one bound to the other", x.equal(free, x.term(2, 1, 1, 0)), 1);
        Counted deep = Boundaries.trees();
        deep.term(0, 0, 0, 0);
        for (int node = 1; node < 100; node++) {
            deep.term(1, node - 1, 0, 0);
        }
        b.due("99 levels and 98", deep.equal(99, 98), 0);
        b.due("99 levels", deep.equal(99, 99), 1);
        Counted chain = chainOfBindings();
        b.due("over 99 bindings", chain.equal(99, 0), 1);
    }
}
