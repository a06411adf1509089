/** Promises 11 to 20: variables, constructor nodes, and what is read from nodes. */
public final class NodesTest {
    private static final Checks checks = new Checks("NodesTest");

    public static void main(String[] args) {
        promise11Variable();
        promise12Term();
        promises13And14NodeCountAndType();
        promises15To17HeadChildBinding();
        promise18Size();
        promise18SharedNodes();
        promise19Rank();
        promise19RankTooLarge();
        promise20Equal();
        promise20SharedNodes();
        checks.end();
    }

    private static void promise11Variable() {
        DatatypeTerms x = new DatatypeTerms();
        checks.due("no type", x.variable(0), -1);
        x.addType();
        x.addType();
        checks.due("variable(-1)", x.variable(-1), -1);
        checks.due("variable(2)", x.variable(2), -1);
        for (int node = 0; node < 100; node++) {
            checks.due("variable", x.variable(node % 2), node);
            checks.due("its type", x.nodeType(node), node % 2);
            checks.due("it is free", x.binding(node), -13);
        }
        checks.due("full", x.variable(0), -6);
        checks.due("type before full", x.variable(2), -1);
        checks.due("nodeCount()", x.nodeCount(), 100);
    }

    private static void promise12Term() {
        DatatypeTerms x = new DatatypeTerms();
        x.addType();
        x.addType();
        x.addConstructor(0, 0, 0, 0, 0);
        x.addConstructor(1, 3, 0, 1, 0);
        x.addConstructor(1, 2, 0, 0, 0);
        x.addConstructor(1, 1, 0, 0, 0);
        checks.due("no such constructor", x.term(4, 0, 0, 0), -2);
        checks.due("no such constructor, first", x.term(-1, -5, 0, 0), -2);
        checks.due("no children, all ignored", x.term(0, -1, 99, 1000), 0);
        checks.due("a variable", x.variable(1), 1);
        checks.due("first child missing", x.term(1, 2, 1, 0), -3);
        checks.due("second child missing", x.term(1, 0, -1, 0), -3);
        checks.due("third child missing", x.term(1, 0, 1, 5), -3);
        checks.due("missing before wrong type", x.term(1, 1, 0, 5), -3);
        checks.due("first child of wrong type", x.term(1, 1, 1, 0), -5);
        checks.due("second child of wrong type", x.term(1, 0, 0, 0), -5);
        checks.due("third child of wrong type", x.term(1, 0, 1, 1), -5);
        checks.due("nothing created", x.nodeCount(), 2);
        checks.due("three children", x.term(1, 0, 1, 0), 2);
        checks.due("two children, third ignored", x.term(2, 0, 0, 77), 3);
        checks.due("one child, others ignored", x.term(3, 0, -7, 1), 4);
        checks.due("types", x.nodeType(2), 1);
        for (int node = 5; node < 100; node++) {
            checks.due("fill", x.term(0, 0, 0, 0), node);
        }
        checks.due("full", x.term(0, 0, 0, 0), -6);
        checks.due("constructor before full", x.term(9, 0, 0, 0), -2);
        checks.due("child before full", x.term(3, 100, 0, 0), -3);
        checks.due("type before full", x.term(3, 1, 0, 0), -5);
    }

    private static void promises13And14NodeCountAndType() {
        DatatypeTerms x = new DatatypeTerms();
        x.addType();
        x.addType();
        x.addConstructor(1, 1, 0, 0, 0);
        checks.due("nodeCount()", x.nodeCount(), 0);
        x.variable(0);
        checks.due("nodeCount()", x.nodeCount(), 1);
        x.term(0, 0, 0, 0);
        checks.due("nodeCount()", x.nodeCount(), 2);
        checks.due("nodeType(0)", x.nodeType(0), 0);
        checks.due("nodeType(1)", x.nodeType(1), 1);
        checks.due("nodeType(2)", x.nodeType(2), -3);
        checks.due("nodeType(-1)", x.nodeType(-1), -3);
        checks.due("nodeType(max)", x.nodeType(Integer.MAX_VALUE), -3);
    }

    private static void promises15To17HeadChildBinding() {
        DatatypeTerms x = peano();
        x.variable(0);
        x.variable(0);
        x.term(0, 0, 0, 0);
        x.term(2, 1, 2, 0);
        checks.due("head of a free variable", x.head(0), -13);
        checks.due("head of a constructor", x.head(3), 2);
        checks.due("head(4)", x.head(4), -3);
        checks.due("head(-1)", x.head(-1), -3);
        checks.due("child(3, 0)", x.child(3, 0), 1);
        checks.due("child(3, 1)", x.child(3, 1), 2);
        checks.due("child(3, 2)", x.child(3, 2), -13);
        checks.due("child(3, -1)", x.child(3, -1), -13);
        checks.due("child of a leaf", x.child(2, 0), -13);
        checks.due("child of a free variable", x.child(0, 0), -13);
        checks.due("child(4, 0)", x.child(4, 0), -3);
        checks.due("child(-1, -1)", x.child(-1, -1), -3);
        checks.due("unify(1, 0)", x.unify(1, 0), 1);
        checks.due("binding(1)", x.binding(1), 0);
        checks.due("head of a bound one that ends free", x.head(1), -13);
        checks.due("binding of a free one", x.binding(0), -13);
        checks.due("binding of a constructor node", x.binding(3), -13);
        checks.due("binding(4)", x.binding(4), -3);
        checks.due("binding(-1)", x.binding(-1), -3);
        checks.due("unify(0, 2)", x.unify(0, 2), 1);
        checks.due("binding(1), not resolved further", x.binding(1), 0);
        checks.due("head over two bindings", x.head(1), 0);
        checks.due("child is not resolved", x.child(3, 0), 1);
        x.variable(0);
        x.unify(4, 3);
        checks.due("child of a bound variable", x.child(4, 0), 1);
        checks.due("child of a bound variable", x.child(4, 1), 2);
        checks.due("child of a bound variable", x.child(4, 2), -13);
    }

    private static void promise18Size() {
        DatatypeTerms x = peano();
        x.variable(0);
        x.term(0, 0, 0, 0);
        x.term(1, 0, 0, 0);
        x.term(2, 2, 1, 0);
        checks.due("free variable", x.size(0), -9);
        checks.due("leaf", x.size(1), 1);
        checks.due("free below", x.size(3), -9);
        checks.due("size(4)", x.size(4), -3);
        checks.due("size(-1)", x.size(-1), -3);
        x.unify(0, 1);
        checks.due("bound variable", x.size(0), 1);
        checks.due("ground now", x.size(3), 4);
        x.unbindAll();
        checks.due("free again", x.size(3), -9);
    }

    private static void promise18SharedNodes() {
        DatatypeTerms x = peano();
        x.term(0, 0, 0, 0);
        for (int node = 1; node < 99; node++) {
            x.term(2, node - 1, node - 1, 0);
        }
        checks.due("2^19 - 1", x.size(18), 524287);
        checks.due("2^20 - 1", x.size(19), 1000000);
        checks.due("2^99 - 1", x.size(98), 1000000);
        DatatypeTerms y = peano();
        y.variable(0);
        for (int node = 1; node < 99; node++) {
            y.term(2, node - 1, node - 1, 0);
        }
        checks.due("not ground, however large", y.size(98), -9);
        y.term(0, 0, 0, 0);
        y.unify(0, 99);
        checks.due("ground", y.size(98), 1000000);
        DatatypeTerms z = peano();
        z.term(0, 0, 0, 0);
        for (int node = 1; node < 100; node++) {
            z.term(1, node - 1, 0, 0);
        }
        checks.due("100 nodes deep", z.size(99), 100);
        checks.due("100 nodes deep", z.rank(99), -10);
        checks.due("100 nodes deep", z.equal(99, 99), 1);
        checks.due("100 nodes deep", z.equal(98, 99), 0);
    }

    private static void promise19Rank() {
        DatatypeTerms x = peano();
        x.variable(0);
        x.term(0, 0, 0, 0);
        x.term(1, 1, 0, 0);
        x.term(2, 0, 1, 0);
        checks.due("free", x.rank(3), -9);
        checks.due("rank(4)", x.rank(4), -3);
        checks.due("rank(-1)", x.rank(-1), -3);
        x.unify(0, 2);
        // Size 4: 1(1(1(0))), 1(2(0,0)), 2(0,1(0)), 2(1(0),0).
        checks.due("2(1(0), 0)", x.rank(3), 3);
        checks.due("leaf", x.rank(1), 0);
        x.addConstructor(0, 0, 0, 0, 0);
        // Each leaf is 0 or 3 now: 2 + 4 + 4 values lie before 2(1(_), _) of size 4.
        checks.due("after a new leaf", x.rank(3), 10);
        for (int size = 1; size <= 5; size++) {
            checkRanksOfSize(size);
        }
    }

    private static void checkRanksOfSize(int size) {
        DatatypeTerms x = peano();
        for (int index = 0; index < x.count(0, size); index++) {
            checks.due("rank of value " + index + " of size " + size,
                    x.rank(x.value(0, size, index)), index);
        }
    }

    private static void promise19RankTooLarge() {
        DatatypeTerms x = peano();
        x.term(0, 0, 0, 0);
        for (int node = 1; node < 12; node++) {
            x.term(1, node - 1, 0, 0);
        }
        checks.due("size 12", x.rank(11), 0);
        x.term(1, 11, 0, 0);
        checks.due("size 13", x.rank(12), -10);
        x.variable(0);
        x.term(2, 13, 12, 0);
        checks.due("not ground comes before", x.rank(14), -9);

        DatatypeTerms y = new DatatypeTerms();
        y.addType();
        y.addType();
        for (int i = 0; i < 10; i++) {
            y.addConstructor(0, 0, 0, 0, 0);
        }
        y.addConstructor(0, 3, 0, 0, 0);
        y.addConstructor(1, 2, 0, 0, 0);
        // Pairs of size 9: (1, 7), (4, 4), (7, 1): 10 * 300000, then 10^6, then 300000 * 10.
        int least = y.term(0, 0, 0, 0);
        int greatest = y.term(9, 0, 0, 0);
        int least4 = y.term(10, least, least, least);
        int greatest7 = y.value(0, 7, 299999);
        checks.due("greatest of size 7", y.rank(greatest7), 299999);
        int third = y.term(3, 0, 0, 0);
        int other = y.value(0, 7, 99999);
        checks.due("3 * 300000 + 99999", y.rank(y.term(11, third, other, 0)), 999999);
        checks.due("3 * 300000 + 299999", y.rank(y.term(11, third, greatest7, 0)), -10);
        checks.due("(4, 4)", y.rank(y.term(11, least4, least4, 0)), -10);
        checks.due("(7, 1)", y.rank(y.term(11, greatest7, greatest, 0)), -10);
        checks.due("(1, 7)", y.rank(y.term(11, greatest, greatest7, 0)), -10);
        checks.due("(1, 1)", y.rank(y.term(11, greatest, greatest, 0)), 99);
    }

    private static void promise20Equal() {
        DatatypeTerms x = peano();
        x.variable(0);
        x.variable(0);
        x.term(2, 0, 1, 0);
        x.term(2, 0, 1, 0);
        x.term(2, 1, 0, 0);
        checks.due("same node", x.equal(0, 0), 1);
        checks.due("different free variables", x.equal(0, 1), 0);
        checks.due("same structure", x.equal(2, 3), 1);
        checks.due("variables changed", x.equal(2, 4), 0);
        checks.due("variable and constructor", x.equal(0, 2), 0);
        checks.due("equal(0, 5)", x.equal(0, 5), -3);
        checks.due("equal(5, 0)", x.equal(5, 0), -3);
        checks.due("equal(-1, -1)", x.equal(-1, -1), -3);
        x.unify(0, 1);
        checks.due("variables bound together", x.equal(2, 4), 1);
        checks.due("variables bound together", x.equal(0, 1), 1);
        checks.due("equal binds nothing", x.boundCount(), 1);
        x.term(0, 0, 0, 0);
        x.term(1, 5, 0, 0);
        x.term(1, 0, 0, 0);
        checks.due("1(0) and 1(variable)", x.equal(6, 7), 0);
        x.unify(1, 5);
        checks.due("1(0) and 1(bound)", x.equal(6, 7), 1);
        checks.due("different constructors", x.equal(5, 6), 0);
        x.addType();
        x.variable(1);
        checks.due("different types", x.equal(8, 0), 0);
    }

    private static void promise20SharedNodes() {
        DatatypeTerms x = peano();
        x.term(0, 0, 0, 0);
        x.term(0, 0, 0, 0);
        for (int node = 2; node < 100; node += 2) {
            x.term(2, node - 2, node - 2, 0);
            x.term(2, node - 1, node - 1, 0);
        }
        checks.due("two huge equal terms", x.equal(98, 99), 1);
        checks.due("two huge different terms", x.equal(97, 99), 0);
    }

    /** One type with the constructors 0 of arity 0, 1 of arity 1, and 2 of arity 2. */
    private static DatatypeTerms peano() {
        DatatypeTerms x = new DatatypeTerms();
        x.addType();
        x.addConstructor(0, 0, 0, 0, 0);
        x.addConstructor(0, 1, 0, 0, 0);
        x.addConstructor(0, 2, 0, 0, 0);
        return x;
    }
}
