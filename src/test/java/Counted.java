/** A DatatypeTerms that counts its calls, as the document promises nothing after the 512th. */
final class Counted {
    private static final int CALLS = 512;
    private final DatatypeTerms terms = new DatatypeTerms();
    private int calls = 0;

    int calls() {
        return calls;
    }

    private DatatypeTerms next() {
        calls++;
        if (calls > CALLS) {
            throw new IllegalStateException("the test makes more than " + CALLS + " calls");
        }
        return terms;
    }

    int addType() {
        return next().addType();
    }

    int addConstructor(int type, int arity, int a, int b, int c) {
        return next().addConstructor(type, arity, a, b, c);
    }

    int resultType(int constructor) {
        return next().resultType(constructor);
    }

    int arity(int constructor) {
        return next().arity(constructor);
    }

    int argumentType(int constructor, int k) {
        return next().argumentType(constructor, k);
    }

    int cardinality(int type) {
        return next().cardinality(type);
    }

    int smallestSize(int type) {
        return next().smallestSize(type);
    }

    int count(int type, int size) {
        return next().count(type, size);
    }

    int value(int type, int size, int index) {
        return next().value(type, size, index);
    }

    int variable(int type) {
        return next().variable(type);
    }

    int term(int constructor, int a, int b, int c) {
        return next().term(constructor, a, b, c);
    }

    int nodeCount() {
        return next().nodeCount();
    }

    int nodeType(int node) {
        return next().nodeType(node);
    }

    int head(int node) {
        return next().head(node);
    }

    int child(int node, int k) {
        return next().child(node, k);
    }

    int binding(int node) {
        return next().binding(node);
    }

    int size(int node) {
        return next().size(node);
    }

    int rank(int node) {
        return next().rank(node);
    }

    int equal(int a, int b) {
        return next().equal(a, b);
    }

    int unify(int a, int b) {
        return next().unify(a, b);
    }

    int boundCount() {
        return next().boundCount();
    }

    int unbindAll() {
        return next().unbindAll();
    }

    int push() {
        return next().push();
    }

    int pop() {
        return next().pop();
    }

    int addRow(int pattern) {
        return next().addRow(pattern);
    }

    int clearRows() {
        return next().clearRows();
    }

    int firstMatch(int node) {
        return next().firstMatch(node);
    }

    int uncovered(int size) {
        return next().uncovered(size);
    }

    int firstUncovered(int limit) {
        return next().firstUncovered(limit);
    }

    int coveredBy(int row, int size) {
        return next().coveredBy(row, size);
    }
}
