/** The four examples of the document, call by call. */
public final class ExamplesTest {
    private static final Checks checks = new Checks("ExamplesTest");

    public static void main(String[] args) {
        valuesOfAListType();
        unificationACycleAndAClash();
        rowsAndWhatTheyLeaveUncovered();
        aTypeWithoutValuesAndErrors();
        checks.end();
    }

    private static void valuesOfAListType() {
        DatatypeTerms x = new DatatypeTerms();
        checks.due("1: addType()", x.addType(), 0);
        checks.due("1: addType()", x.addType(), 1);
        checks.due("1: addConstructor(0, 0, 0, 0, 0)", x.addConstructor(0, 0, 0, 0, 0), 0);
        checks.due("1: addConstructor(0, 0, 0, 0, 0)", x.addConstructor(0, 0, 0, 0, 0), 1);
        checks.due("1: addConstructor(1, 0, 0, 0, 0)", x.addConstructor(1, 0, 0, 0, 0), 2);
        checks.due("1: addConstructor(1, 2, 0, 1, 0)", x.addConstructor(1, 2, 0, 1, 0), 3);
        checks.due("1: cardinality(0)", x.cardinality(0), 2);
        checks.due("1: cardinality(1)", x.cardinality(1), -14);
        checks.due("1: count(1, 5)", x.count(1, 5), 4);
        checks.due("1: value(1, 5, 2)", x.value(1, 5, 2), 4);
        checks.due("1: rank(4)", x.rank(4), 2);
        checks.due("1: head(0)", x.head(0), 1);
        checks.due("1: head(1)", x.head(1), 0);
    }

    private static void unificationACycleAndAClash() {
        DatatypeTerms x = new DatatypeTerms();
        checks.due("2: addType()", x.addType(), 0);
        checks.due("2: addConstructor(0, 0, 0, 0, 0)", x.addConstructor(0, 0, 0, 0, 0), 0);
        checks.due("2: addConstructor(0, 1, 0, 0, 0)", x.addConstructor(0, 1, 0, 0, 0), 1);
        checks.due("2: variable(0)", x.variable(0), 0);
        checks.due("2: variable(0)", x.variable(0), 1);
        checks.due("2: term(1, 1, 0, 0)", x.term(1, 1, 0, 0), 2);
        checks.due("2: unify(0, 2)", x.unify(0, 2), 1);
        checks.due("2: unify(1, 0)", x.unify(1, 0), -8);
        checks.due("2: term(0, 0, 0, 0)", x.term(0, 0, 0, 0), 3);
        checks.due("2: unify(2, 3)", x.unify(2, 3), -7);
        checks.due("2: unify(1, 3)", x.unify(1, 3), 1);
        checks.due("2: size(0)", x.size(0), 2);
    }

    private static void rowsAndWhatTheyLeaveUncovered() {
        DatatypeTerms x = new DatatypeTerms();
        checks.due("3: addType()", x.addType(), 0);
        checks.due("3: addConstructor(0, 0, 0, 0, 0)", x.addConstructor(0, 0, 0, 0, 0), 0);
        checks.due("3: addConstructor(0, 2, 0, 0, 0)", x.addConstructor(0, 2, 0, 0, 0), 1);
        checks.due("3: variable(0)", x.variable(0), 0);
        checks.due("3: term(0, 0, 0, 0)", x.term(0, 0, 0, 0), 1);
        checks.due("3: term(1, 0, 0, 0)", x.term(1, 0, 0, 0), 2);
        checks.due("3: addRow(1)", x.addRow(1), 0);
        checks.due("3: addRow(2)", x.addRow(2), 1);
        checks.due("3: uncovered(3)", x.uncovered(3), 0);
        checks.due("3: firstUncovered(8)", x.firstUncovered(8), 50000);
        checks.due("3: coveredBy(1, 3)", x.coveredBy(1, 3), 1);
    }

    private static void aTypeWithoutValuesAndErrors() {
        DatatypeTerms x = new DatatypeTerms();
        checks.due("4: addType()", x.addType(), 0);
        checks.due("4: addConstructor(0, 1, 0, 0, 0)", x.addConstructor(0, 1, 0, 0, 0), 0);
        checks.due("4: cardinality(0)", x.cardinality(0), 0);
        checks.due("4: smallestSize(0)", x.smallestSize(0), -13);
        checks.due("4: value(0, 1, 0)", x.value(0, 1, 0), -13);
        checks.due("4: addConstructor(0, 4, 9, 9, 9)", x.addConstructor(0, 4, 9, 9, 9), -4);
        checks.due("4: addConstructor(9, 0, 0, 0, 0)", x.addConstructor(9, 0, 0, 0, 0), -1);
    }
}
