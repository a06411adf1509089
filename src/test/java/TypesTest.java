/** Promises 1 to 10: a new object, types, constructors, counts and the order of values. */
public final class TypesTest {
    private static final Checks checks = new Checks("TypesTest");

    public static void main(String[] args) {
        constants();
        promise1NewObject();
        promise2AddType();
        promise3AddConstructor();
        promises4To6ReadConstructors();
        promise7Cardinality();
        promise8SmallestSize();
        promise9Count();
        promise10ValueOrder();
        promise10ValueNodes();
        promise10ValueErrors();
        checks.end();
    }

    private static void constants() {
        int[] got = {DatatypeTerms.NO_SUCH_TYPE, DatatypeTerms.NO_SUCH_CONSTRUCTOR,
            DatatypeTerms.NO_SUCH_NODE, DatatypeTerms.OUT_OF_RANGE, DatatypeTerms.WRONG_TYPE,
            DatatypeTerms.FULL, DatatypeTerms.CLASH, DatatypeTerms.CYCLE, DatatypeTerms.NOT_GROUND,
            DatatypeTerms.TOO_LARGE, DatatypeTerms.NO_ROWS, DatatypeTerms.EMPTY, DatatypeTerms.NONE,
            DatatypeTerms.INFINITE};
        for (int i = 0; i < got.length; i++) {
            checks.due("constant " + i, got[i], -1 - i);
        }
        checks.due("MANY", DatatypeTerms.MANY, 1000000);
    }

    private static void promise1NewObject() {
        DatatypeTerms x = new DatatypeTerms();
        checks.due("new: resultType(0)", x.resultType(0), -2);
        checks.due("new: cardinality(0)", x.cardinality(0), -1);
        checks.due("new: nodeCount()", x.nodeCount(), 0);
        checks.due("new: nodeType(0)", x.nodeType(0), -3);
        checks.due("new: boundCount()", x.boundCount(), 0);
        checks.due("new: pop()", x.pop(), -12);
        checks.due("new: clearRows()", x.clearRows(), 0);
        checks.due("new: uncovered(1)", x.uncovered(1), -11);
        DatatypeTerms other = new DatatypeTerms();
        x.addType();
        checks.due("new: objects share nothing", other.cardinality(0), -1);
    }

    private static void promise2AddType() {
        DatatypeTerms x = new DatatypeTerms();
        for (int type = 0; type < 4; type++) {
            checks.due("addType()", x.addType(), type);
            checks.due("fresh type is empty", x.cardinality(type), 0);
            checks.due("fresh type has no smallest", x.smallestSize(type), -13);
            checks.due("fresh type counts", x.count(type, 1), 0);
        }
        checks.due("fifth addType()", x.addType(), -6);
        checks.due("sixth addType()", x.addType(), -6);
        checks.due("no fifth type", x.cardinality(4), -1);
        checks.due("no type -1", x.cardinality(-1), -1);
    }

    private static void promise3AddConstructor() {
        DatatypeTerms x = new DatatypeTerms();
        checks.due("arity before type", x.addConstructor(0, -1, 0, 0, 0), -4);
        checks.due("arity 4 before type", x.addConstructor(9, 4, 9, 9, 9), -4);
        checks.due("no type yet", x.addConstructor(0, 0, 0, 0, 0), -1);
        x.addType();
        x.addType();
        checks.due("least arity", x.addConstructor(0, Integer.MIN_VALUE, 0, 0, 0), -4);
        checks.due("greatest arity", x.addConstructor(0, Integer.MAX_VALUE, 0, 0, 0), -4);
        checks.due("result type missing", x.addConstructor(2, 0, 0, 0, 0), -1);
        checks.due("result type negative", x.addConstructor(-1, 0, 0, 0, 0), -1);
        checks.due("first argument type missing", x.addConstructor(0, 1, 2, 0, 0), -1);
        checks.due("second argument type missing", x.addConstructor(0, 2, 0, -1, 0), -1);
        checks.due("third argument type missing", x.addConstructor(0, 3, 0, 0, 7), -1);
        checks.due("nothing added by errors", x.arity(0), -2);
        checks.due("arity 0 ignores all", x.addConstructor(0, 0, 9, -9, 99), 0);
        checks.due("arity 1 ignores b and c", x.addConstructor(1, 1, 0, 9, -9), 1);
        checks.due("arity 2 ignores c", x.addConstructor(1, 2, 0, 1, 9), 2);
        checks.due("arity 3", x.addConstructor(0, 3, 1, 0, 1), 3);
        for (int constructor = 4; constructor < 12; constructor++) {
            checks.due("constructor", x.addConstructor(0, 0, 0, 0, 0), constructor);
        }
        checks.due("13th", x.addConstructor(0, 0, 0, 0, 0), -6);
        checks.due("13th, type first", x.addConstructor(2, 0, 0, 0, 0), -1);
        checks.due("13th, argument type first", x.addConstructor(0, 3, 0, 0, 4), -1);
        checks.due("13th, arity first", x.addConstructor(0, 4, 0, 0, 0), -4);
        checks.due("no 13th", x.resultType(12), -2);
        checks.due("12th stands", x.resultType(11), 0);
    }

    private static void promises4To6ReadConstructors() {
        DatatypeTerms x = new DatatypeTerms();
        x.addType();
        x.addType();
        x.addType();
        x.addConstructor(2, 3, 1, 0, 2);
        x.addConstructor(1, 0, 1, 1, 1);
        checks.due("resultType(0)", x.resultType(0), 2);
        checks.due("resultType(1)", x.resultType(1), 1);
        checks.due("resultType(2)", x.resultType(2), -2);
        checks.due("resultType(-1)", x.resultType(-1), -2);
        checks.due("arity(0)", x.arity(0), 3);
        checks.due("arity(1)", x.arity(1), 0);
        checks.due("arity(2)", x.arity(2), -2);
        checks.due("arity(-1)", x.arity(-1), -2);
        checks.due("argumentType(0, 0)", x.argumentType(0, 0), 1);
        checks.due("argumentType(0, 1)", x.argumentType(0, 1), 0);
        checks.due("argumentType(0, 2)", x.argumentType(0, 2), 2);
        checks.due("argumentType(0, 3)", x.argumentType(0, 3), -13);
        checks.due("argumentType(0, -1)", x.argumentType(0, -1), -13);
        checks.due("argumentType(1, 0)", x.argumentType(1, 0), -13);
        checks.due("argumentType(2, 9)", x.argumentType(2, 9), -2);
        checks.due("argumentType(-1, 0)", x.argumentType(-1, 0), -2);
        checks.due("argumentType(max, max)", x.argumentType(Integer.MAX_VALUE, Integer.MAX_VALUE), -2);
    }

    private static void promise7Cardinality() {
        DatatypeTerms x = new DatatypeTerms();
        for (int i = 0; i < 4; i++) {
            x.addType();
        }
        x.addConstructor(0, 2, 1, 1, 0);
        checks.due("argument without values", x.cardinality(0), 0);
        x.addConstructor(1, 0, 0, 0, 0);
        x.addConstructor(1, 0, 0, 0, 0);
        checks.due("two leaves", x.cardinality(1), 2);
        checks.due("pairs", x.cardinality(0), 4);
        x.addConstructor(1, 2, 1, 3, 0);
        checks.due("recursion through an empty type counts nothing", x.cardinality(1), 2);
        x.addConstructor(2, 3, 0, 0, 0);
        checks.due("triples", x.cardinality(2), 64);
        x.addConstructor(3, 1, 3, 0, 0);
        checks.due("only recursion", x.cardinality(3), 0);
        x.addConstructor(3, 0, 0, 0, 0);
        checks.due("leaf and recursion", x.cardinality(3), -14);
        checks.due("leads to infinite", x.cardinality(2), -14);
        checks.due("no such type", x.cardinality(4), -1);

        DatatypeTerms y = new DatatypeTerms();
        for (int i = 0; i < 4; i++) {
            y.addType();
        }
        for (int i = 0; i < 7; i++) {
            y.addConstructor(0, 0, 0, 0, 0);
        }
        y.addConstructor(1, 3, 0, 0, 0);
        checks.due("7 cubed", y.cardinality(1), 343);
        y.addConstructor(2, 2, 1, 1, 0);
        checks.due("343 squared", y.cardinality(2), 117649);
        y.addConstructor(3, 3, 2, 2, 2);
        checks.due("more than MANY", y.cardinality(3), 1000000);
        y.addConstructor(2, 3, 2, 3, 3);
        checks.due("a circle", y.cardinality(2), -14);
        checks.due("outside the circle", y.cardinality(1), 343);

        DatatypeTerms z = new DatatypeTerms();
        z.addType();
        z.addType();
        z.addType();
        for (int i = 0; i < 10; i++) {
            z.addConstructor(0, 0, 0, 0, 0);
        }
        z.addConstructor(1, 3, 0, 0, 0);
        z.addConstructor(2, 2, 1, 1, 0);
        checks.due("exactly MANY", z.cardinality(2), 1000000);
    }

    private static void promise8SmallestSize() {
        DatatypeTerms x = new DatatypeTerms();
        for (int i = 0; i < 4; i++) {
            x.addType();
        }
        x.addConstructor(0, 3, 1, 1, 1);
        x.addConstructor(1, 3, 2, 2, 2);
        x.addConstructor(2, 3, 3, 3, 3);
        checks.due("no values", x.smallestSize(0), -13);
        x.addConstructor(3, 0, 0, 0, 0);
        checks.due("leaf", x.smallestSize(3), 1);
        checks.due("one level", x.smallestSize(2), 4);
        checks.due("two levels", x.smallestSize(1), 13);
        checks.due("three levels, beyond 12", x.smallestSize(0), 40);
        x.addConstructor(0, 1, 2, 0, 0);
        checks.due("a smaller way", x.smallestSize(0), 5);
        x.addConstructor(2, 1, 3, 0, 0);
        checks.due("smaller below", x.smallestSize(0), 3);
        checks.due("smaller below", x.smallestSize(1), 7);
        checks.due("no such type", x.smallestSize(4), -1);
        checks.due("no such type", x.smallestSize(-1), -1);
    }

    private static void promise9Count() {
        DatatypeTerms x = new DatatypeTerms();
        x.addType();
        x.addConstructor(0, 0, 0, 0, 0);
        x.addConstructor(0, 2, 0, 0, 0);
        int[] catalan = {1, 0, 1, 0, 2, 0, 5, 0, 14, 0, 42, 0};
        for (int size = 1; size <= 12; size++) {
            checks.due("binary trees of size " + size, x.count(0, size), catalan[size - 1]);
        }
        checks.due("type first", x.count(1, 0), -1);
        checks.due("type -1", x.count(-1, 1), -1);
        checks.due("size 0", x.count(0, 0), -4);
        checks.due("size 13", x.count(0, 13), -4);
        checks.due("least size", x.count(0, Integer.MIN_VALUE), -4);
        x.addConstructor(0, 3, 0, 0, 0);
        // Size 4 has the triple of leaves; size 6 has 3 triples with a pair inside, 2 pairs with a triple.
        checks.due("with triples", x.count(0, 4), 1);
        checks.due("with triples", x.count(0, 6), 5);

        DatatypeTerms y = new DatatypeTerms();
        y.addType();
        for (int i = 0; i < 10; i++) {
            y.addConstructor(0, 0, 0, 0, 0);
        }
        checks.due("10 leaves", y.count(0, 1), 10);
        y.addConstructor(0, 3, 0, 0, 0);
        y.addConstructor(0, 1, 0, 0, 0);
        checks.due("chains", y.count(0, 2), 10);
        checks.due("10 + 1000", y.count(0, 4), 1010);
        checks.due("10 + 4 * 1000", y.count(0, 5), 4010);
        checks.due("10 + 20 * 1000 + 3 * 100000", y.count(0, 7), 320010);
        checks.due("cut at MANY", y.count(0, 8), 1000000);
        checks.due("cut at MANY", y.count(0, 12), 1000000);
    }

    private static void promise10ValueOrder() {
        DatatypeTerms x = new DatatypeTerms();
        x.addType();
        x.addConstructor(0, 2, 0, 0, 0);
        x.addConstructor(0, 0, 0, 0, 0);
        x.addConstructor(0, 1, 0, 0, 0);
        // Size 4: 0(1, 2(1)) before 0(2(1), 1) as the smaller first argument comes first.
        String[] size4 = {"0(1,2(1))", "0(2(1),1)", "2(0(1,1))", "2(2(2(1)))"};
        checks.due("count(0, 4)", x.count(0, 4), 4);
        for (int index = 0; index < 4; index++) {
            int root = x.value(0, 4, index);
            checks.holds("value(0, 4, " + index + ") is " + size4[index],
                    text(x, root).equals(size4[index]));
            checks.due("rank of it", x.rank(root), index);
            checks.due("size of it", x.size(root), 4);
        }
        String[] size5 = {"0(1,0(1,1))", "0(1,2(2(1)))", "0(2(1),2(1))", "0(0(1,1),1)", "0(2(2(1)),1)",
            "2(0(1,2(1)))", "2(0(2(1),1))", "2(2(0(1,1)))", "2(2(2(2(1))))"};
        checks.due("count(0, 5)", x.count(0, 5), 9);
        for (int index = 0; index < 9; index++) {
            int root = x.value(0, 5, index);
            checks.holds("value(0, 5, " + index + ") is " + size5[index],
                    text(x, root).equals(size5[index]));
        }
    }

    private static String text(DatatypeTerms x, int node) {
        StringBuilder text = new StringBuilder();
        text.append(x.head(node));
        for (int k = 0; x.child(node, k) >= 0; k++) {
            text.append(k == 0 ? "(" : ",").append(text(x, x.child(node, k)));
        }
        return text.append(x.child(node, 0) >= 0 ? ")" : "").toString();
    }

    private static void promise10ValueNodes() {
        DatatypeTerms x = new DatatypeTerms();
        x.addType();
        x.addType();
        x.addConstructor(0, 0, 0, 0, 0);
        x.addConstructor(0, 1, 0, 0, 0);
        x.addConstructor(1, 3, 0, 0, 0);
        x.variable(0);
        // Size 7 = root, then 3 chains with 6 nodes together: first comes (1, 1, 4).
        checks.due("chains (1, 1, 4)", x.value(1, 7, 0), 7);
        int[] heads = {0, 0, 0, 1, 1, 1, 2};
        for (int i = 0; i < 7; i++) {
            checks.due("head of node " + (i + 1), x.head(i + 1), heads[i]);
        }
        checks.due("child(7, 0)", x.child(7, 0), 1);
        checks.due("child(7, 1)", x.child(7, 1), 2);
        checks.due("child(7, 2)", x.child(7, 2), 6);
        checks.due("child(6, 0)", x.child(6, 0), 5);
        checks.due("nodeType(7)", x.nodeType(7), 1);
        checks.due("nodeType(6)", x.nodeType(6), 0);
        // (1,1,4) (1,2,3) (1,3,2) (1,4,1) (2,1,3) (2,2,2) ...
        checks.due("chains (2, 2, 2)", x.value(1, 7, 5), 14);
        checks.due("child(14, 0)", x.child(14, 0), 9);
        checks.due("child(14, 1)", x.child(14, 1), 11);
        checks.due("child(14, 2)", x.child(14, 2), 13);
        checks.due("nodeCount()", x.nodeCount(), 15);
    }

    private static void promise10ValueErrors() {
        DatatypeTerms x = new DatatypeTerms();
        x.addType();
        for (int i = 0; i < 10; i++) {
            x.addConstructor(0, 0, 0, 0, 0);
        }
        x.addConstructor(0, 1, 0, 0, 0);
        x.addConstructor(0, 3, 0, 0, 0);
        checks.due("type first", x.value(1, 0, -1), -1);
        checks.due("size second", x.value(0, 0, -1), -4);
        checks.due("size 13", x.value(0, 13, 0), -4);
        checks.due("index -1", x.value(0, 1, -1), -13);
        checks.due("index too great", x.value(0, 1, 10), -13);
        checks.due("index MANY", x.value(0, 12, 1000000), -13);
        checks.due("errors create nothing", x.nodeCount(), 0);
        checks.due("greatest index", x.value(0, 12, 999999), 11);
        checks.due("its rank", x.rank(11), 999999);
        for (int i = 2; i <= 8; i++) {
            checks.due("12 nodes more", x.value(0, 12, i * 100000), i * 12 - 1);
            checks.due("rank of it", x.rank(i * 12 - 1), i * 100000);
        }
        checks.due("4 places left, 5 wanted", x.value(0, 5, 0), -6);
        checks.due("index before full", x.value(0, 5, 4010), -13);
        checks.due("nothing created", x.nodeCount(), 96);
        checks.due("just fits", x.value(0, 4, 1009), 99);
        checks.due("full", x.value(0, 1, 0), -6);
        checks.due("nodeCount()", x.nodeCount(), 100);
    }
}
