/** Promises 26 to 31: rows, matches and coverage. */
public final class RowsTest {
    private static final Checks checks = new Checks("RowsTest");

    public static void main(String[] args) {
        promises26And27AddAndClearRows();
        promise28Errors();
        promise28FirstMatch();
        promise28SizeLimit();
        promise28Bindings();
        promise28SharedPattern();
        promise29Uncovered();
        promise30FirstUncovered();
        promise31CoveredBy();
        promises29To31TooLarge();
        promises29To31EmptyType();
        promises29To31TypesDefinedLater();
        checks.end();
    }

    private static void promises26And27AddAndClearRows() {
        DatatypeTerms x = trees();
        x.addType();
        x.variable(0);
        x.variable(1);
        checks.due("clearRows() of none", x.clearRows(), 0);
        checks.due("addRow(2)", x.addRow(2), -3);
        checks.due("addRow(-1)", x.addRow(-1), -3);
        checks.due("addRow(0)", x.addRow(0), 0);
        checks.due("another type", x.addRow(1), -5);
        for (int row = 1; row < 8; row++) {
            checks.due("a pattern may come again", x.addRow(0), row);
        }
        checks.due("full", x.addRow(0), -6);
        checks.due("type before full", x.addRow(1), -5);
        checks.due("node before full", x.addRow(2), -3);
        checks.due("clearRows()", x.clearRows(), 8);
        checks.due("clearRows() again", x.clearRows(), 0);
        checks.due("a new subject type", x.addRow(1), 0);
        checks.due("the old one is wrong now", x.addRow(0), -5);
    }

    private static void promise28Errors() {
        DatatypeTerms x = trees();
        x.addType();
        int v = x.variable(0);
        int w = x.variable(1);
        int leaf = x.term(0, 0, 0, 0);
        checks.due("no node before no rows", x.firstMatch(9), -3);
        checks.due("no rows", x.firstMatch(v), -11);
        int one = x.term(1, leaf, 0, 0);
        x.addRow(one);
        checks.due("no node", x.firstMatch(-1), -3);
        checks.due("wrong type before not ground", x.firstMatch(w), -5);
        checks.due("not ground", x.firstMatch(v), -9);
        checks.due("no match", x.firstMatch(leaf), -13);
        checks.due("match", x.firstMatch(one), 0);
    }

    private static void promise28FirstMatch() {
        DatatypeTerms x = trees();
        int v = x.variable(0);
        int w = x.variable(0);
        int leaf = x.term(0, 0, 0, 0);
        int one = x.term(1, leaf, 0, 0);
        x.addRow(leaf);
        x.addRow(x.term(2, v, v, 0));
        x.addRow(x.term(2, v, w, 0));
        x.addRow(x.term(1, x.term(2, v, x.term(1, v, 0, 0), 0), 0, 0));
        x.addRow(x.term(1, w, 0, 0));
        checks.due("leaf", x.firstMatch(leaf), 0);
        checks.due("the same twice", x.firstMatch(x.term(2, one, one, 0)), 1);
        int anotherOne = x.term(1, x.term(0, 0, 0, 0), 0, 0);
        checks.due("equal terms of different nodes", x.firstMatch(x.term(2, one, anotherOne, 0)), 1);
        checks.due("two different", x.firstMatch(x.term(2, one, leaf, 0)), 2);
        int nested = x.term(1, x.term(2, one, x.term(1, anotherOne, 0, 0), 0), 0, 0);
        checks.due("one variable at two depths", x.firstMatch(nested), 3);
        int nearly = x.term(1, x.term(2, one, x.term(1, leaf, 0, 0), 0), 0, 0);
        checks.due("another value there", x.firstMatch(nearly), 4);
        checks.due("no binding is made", x.boundCount(), 0);
    }

    private static void promise28SizeLimit() {
        DatatypeTerms x = trees();
        int v = x.variable(0);
        x.addRow(x.term(0, 0, 0, 0));
        int chain = 1;
        for (int size = 2; size <= 60; size++) {
            chain = x.term(1, chain, 0, 0);
        }
        x.addRow(x.term(1, x.term(1, v, 0, 0), 0, 0));
        checks.due("size(chain)", x.size(chain), 60);
        checks.due("size 60", x.firstMatch(chain), 1);
        x.addRow(chain);
        int longer = x.term(1, chain, 0, 0);
        checks.due("size 61", x.firstMatch(longer), -10);
        checks.due("not ground before too large", x.firstMatch(x.term(2, longer, v, 0)), -9);
        x.clearRows();
        x.addRow(chain);
        checks.due("deep pattern", x.firstMatch(chain), 0);
        checks.due("size 61 with another row", x.firstMatch(longer), -10);
    }

    private static void promise28Bindings() {
        DatatypeTerms x = trees();
        int v = x.variable(0);
        int w = x.variable(0);
        int leaf = x.term(0, 0, 0, 0);
        int one = x.term(1, leaf, 0, 0);
        int pattern = x.term(2, v, w, 0);
        int different = x.term(2, leaf, one, 0);
        x.addRow(pattern);
        checks.due("two variables", x.firstMatch(different), 0);
        x.unify(v, w);
        checks.due("bound together", x.firstMatch(different), -13);
        checks.due("bound together", x.firstMatch(x.term(2, one, one, 0)), 0);
        x.unbindAll();
        x.unify(v, one);
        checks.due("bound to a term", x.firstMatch(different), -13);
        checks.due("bound to a term", x.firstMatch(x.term(2, one, leaf, 0)), 0);
        checks.due("the subject by a bound variable", x.firstMatch(v), -13);
        x.clearRows();
        x.addRow(w);
        checks.due("the subject by a bound variable", x.firstMatch(v), 0);
        x.unify(w, leaf);
        checks.due("the pattern by a bound variable", x.firstMatch(v), -13);
        checks.due("the pattern by a bound variable", x.firstMatch(leaf), 0);
    }

    private static void promise28SharedPattern() {
        DatatypeTerms x = trees();
        int huge = x.variable(0);
        for (int i = 0; i < 50; i++) {
            huge = x.term(2, huge, huge, 0);
        }
        int full = x.term(0, 0, 0, 0);
        for (int i = 0; i < 4; i++) {
            full = x.term(2, full, full, 0);
        }
        x.addRow(huge);
        checks.due("a huge pattern", x.firstMatch(full), -13);
        x.addRow(full);
        checks.due("size 31", x.size(full), 31);
        checks.due("shared subject and pattern", x.firstMatch(full), 1);
        checks.due("uncovered with a huge pattern", x.uncovered(5), 9);
    }

    private static void promise29Uncovered() {
        DatatypeTerms x = trees();
        int v = x.variable(0);
        int leaf = x.term(0, 0, 0, 0);
        checks.due("no rows first", x.uncovered(0), -11);
        x.addRow(leaf);
        checks.due("size 0", x.uncovered(0), -4);
        checks.due("size 9", x.uncovered(9), -4);
        checks.due("least size", x.uncovered(Integer.MIN_VALUE), -4);
        // 1, 1, 2, 4, 9, 21, 51, 127 values.
        int[] counts = {0, 1, 2, 4, 9, 21, 51, 127};
        for (int size = 1; size <= 8; size++) {
            checks.due("all but the leaf, size " + size, x.uncovered(size), counts[size - 1]);
        }
        x.addRow(x.term(1, v, 0, 0));
        int[] pairs = {0, 0, 1, 2, 5, 12, 30, 76};
        for (int size = 1; size <= 8; size++) {
            checks.due("pairs, size " + size, x.uncovered(size), pairs[size - 1]);
        }
        x.addRow(x.term(2, v, v, 0));
        // Equal parts exist for sizes 3 and 5 (1 each), 7 (2 values of size 3).
        int[] unequal = {0, 0, 0, 2, 4, 12, 28, 76};
        for (int size = 1; size <= 8; size++) {
            checks.due("unequal pairs, size " + size, x.uncovered(size), unequal[size - 1]);
        }
        x.addRow(v);
        checks.due("all", x.uncovered(8), 0);
        checks.due("nothing is created", x.nodeCount(), 4);
    }

    private static void promise30FirstUncovered() {
        DatatypeTerms x = trees();
        int v = x.variable(0);
        int leaf = x.term(0, 0, 0, 0);
        checks.due("no rows first", x.firstUncovered(0), -11);
        x.addRow(x.term(1, v, 0, 0));
        checks.due("limit 0", x.firstUncovered(0), -4);
        checks.due("limit 9", x.firstUncovered(9), -4);
        checks.due("limit -1", x.firstUncovered(-1), -4);
        checks.due("the leaf", x.firstUncovered(1), 10000);
        x.addRow(leaf);
        checks.due("limit 1", x.firstUncovered(1), -13);
        checks.due("limit 2", x.firstUncovered(2), -13);
        checks.due("limit 3: 1(1(0)) is covered, 2(0,0) is not", x.firstUncovered(3), 30001);
        x.addRow(x.term(2, leaf, v, 0));
        // Size 4: 1(..), 1(..), 2(0,1(0)), 2(1(0),0).
        checks.due("limit 8", x.firstUncovered(8), 40003);
        checks.due("limit 3", x.firstUncovered(3), -13);
        x.addRow(v);
        checks.due("all", x.firstUncovered(8), -13);
    }

    private static void promise31CoveredBy() {
        DatatypeTerms x = trees();
        int v = x.variable(0);
        int leaf = x.term(0, 0, 0, 0);
        checks.due("no rows first", x.coveredBy(-1, 0), -11);
        x.addRow(x.term(2, v, leaf, 0));
        x.addRow(x.term(2, leaf, v, 0));
        x.addRow(x.term(2, leaf, leaf, 0));
        checks.due("row -1", x.coveredBy(-1, 1), -4);
        checks.due("row 3", x.coveredBy(3, 1), -4);
        checks.due("size 0", x.coveredBy(0, 0), -4);
        checks.due("size 9", x.coveredBy(0, 9), -4);
        checks.due("size 3", x.coveredBy(0, 3), 1);
        checks.due("an earlier row takes it", x.coveredBy(1, 3), 0);
        checks.due("an earlier row takes it", x.coveredBy(2, 3), 0);
        checks.due("size 5", x.coveredBy(0, 5), 2);
        checks.due("size 5", x.coveredBy(1, 5), 2);
        checks.due("size 5", x.uncovered(5), 5);
        checks.due("size 8", x.coveredBy(0, 8), 21);
        checks.due("size 8", x.coveredBy(1, 8), 21);
        checks.due("size 8", x.uncovered(8), 85);
    }

    private static void promises29To31TooLarge() {
        DatatypeTerms x = new DatatypeTerms();
        x.addType();
        x.addType();
        for (int i = 0; i < 9; i++) {
            x.addConstructor(0, 0, 0, 0, 0);
        }
        x.addConstructor(0, 2, 0, 0, 0);
        // 9 values of size 1, 81 of size 3, 1458 of size 5, and 32805 of size 7.
        int v = x.variable(0);
        int pair = x.term(9, v, v, 0);
        x.addRow(pair);
        checks.due("1458 values", x.uncovered(5), 1458);
        checks.due("32805 values", x.uncovered(7), -10);
        checks.due("no values of size 8", x.uncovered(8), 0);
        checks.due("range before too large", x.uncovered(9), -4);
        checks.due("row before too large", x.coveredBy(1, 7), -4);
        checks.due("32805 values", x.coveredBy(0, 7), -10);
        checks.due("limit 6", x.firstUncovered(6), 10000);
        checks.due("limit 7, though size 1 has one", x.firstUncovered(7), -10);
        checks.due("limit 8 includes size 7", x.firstUncovered(8), -10);
        checks.due("limit 9", x.firstUncovered(9), -4);
        checkEdgeOf2000();
    }

    private static void checkEdgeOf2000() {
        DatatypeTerms x = new DatatypeTerms();
        x.addType();
        x.addType();
        x.addType();
        for (int i = 0; i < 5; i++) {
            x.addConstructor(0, 0, 0, 0, 0);
        }
        x.addConstructor(1, 2, 0, 0, 0);
        for (int i = 0; i < 3; i++) {
            x.addConstructor(2, 2, 1, 1, 0);
        }
        // Size 7: 3 * 25 * 25 = 1875 pairs.
        int v = x.variable(2);
        x.addRow(v);
        checks.due("count(2, 7)", x.count(2, 7), 1875);
        checks.due("1875 values", x.coveredBy(0, 7), 1875);
        x.addConstructor(2, 2, 1, 1, 0);
        checks.due("2500 values", x.coveredBy(0, 7), -10);

        DatatypeTerms y = new DatatypeTerms();
        y.addType();
        y.addType();
        for (int i = 0; i < 10; i++) {
            y.addConstructor(0, 0, 0, 0, 0);
        }
        y.addConstructor(1, 3, 0, 0, 0);
        y.addConstructor(1, 3, 0, 0, 0);
        y.addRow(y.variable(1));
        checks.due("exactly 2000 values", y.coveredBy(0, 4), 2000);
        checks.due("exactly 2000 values", y.firstUncovered(8), -13);
        checks.due("exactly 2000 values", y.uncovered(4), 0);
    }

    private static void promises29To31EmptyType() {
        DatatypeTerms x = new DatatypeTerms();
        x.addType();
        x.addRow(x.variable(0));
        checks.due("no values", x.uncovered(1), 0);
        checks.due("no values", x.coveredBy(0, 8), 0);
        checks.due("no values", x.firstUncovered(8), -13);
    }

    private static void promises29To31TypesDefinedLater() {
        DatatypeTerms x = trees();
        int leaf = x.term(0, 0, 0, 0);
        x.addRow(leaf);
        checks.due("covered", x.uncovered(1), 0);
        x.addConstructor(0, 0, 0, 0, 0);
        checks.due("a new leaf is not", x.uncovered(1), 1);
        checks.due("it comes after the old one", x.firstUncovered(1), 10001);
        checks.due("the old one", x.coveredBy(0, 1), 1);
    }

    /** One type with the constructors 0 of arity 0, 1 of arity 1, and 2 of arity 2. */
    private static DatatypeTerms trees() {
        DatatypeTerms x = new DatatypeTerms();
        x.addType();
        x.addConstructor(0, 0, 0, 0, 0);
        x.addConstructor(0, 1, 0, 0, 0);
        x.addConstructor(0, 2, 0, 0, 0);
        return x;
    }
}
