import java.util.ArrayList;
import java.util.List;

/** The four examples of the document, call by call. */
public final class ExamplesTest {
    private static final Checks checks = new Checks("ExamplesTest");
    private static final List<String> calls = new ArrayList<>();

    public static void main(String[] args) {
        String examples = Document.section("Description");
        valuesOfAListType();
        isExample(examples, "1. Values of a list type: ");
        unificationACycleAndAClash();
        isExample(examples, "2. Unification, a cycle and a clash: ");
        rowsAndWhatTheyLeaveUncovered();
        isExample(examples, "3. Rows and what they leave uncovered: ");
        aTypeWithoutValuesAndErrors();
        isExample(examples, "4. A type without values, and errors: ");
        checks.holds("there is no fifth example", !examples.contains("\n5. "));
        checks.end();
    }

    private static void due(String call, int got, int want) {
        checks.due(call, got, want);
        calls.add(call + " = " + want);
    }

    /** The calls made since the last example are those of the document, with the same answers. */
    private static void isExample(String examples, String title) {
        String example = "\n" + title + String.join("; ", calls) + ".\n";
        checks.holds("the document has the example" + example, examples.contains(example));
        calls.clear();
    }

    private static void valuesOfAListType() {
        DatatypeTerms x = new DatatypeTerms();
        due("addType()", x.addType(), 0);
        due("addType()", x.addType(), 1);
        due("addConstructor(0, 0, 0, 0, 0)", x.addConstructor(0, 0, 0, 0, 0), 0);
        due("addConstructor(0, 0, 0, 0, 0)", x.addConstructor(0, 0, 0, 0, 0), 1);
        due("addConstructor(1, 0, 0, 0, 0)", x.addConstructor(1, 0, 0, 0, 0), 2);
        due("addConstructor(1, 2, 0, 1, 0)", x.addConstructor(1, 2, 0, 1, 0), 3);
        due("cardinality(0)", x.cardinality(0), 2);
        due("cardinality(1)", x.cardinality(1), -14);
        due("count(1, 5)", x.count(1, 5), 4);
        due("value(1, 5, 2)", x.value(1, 5, 2), 4);
        due("rank(4)", x.rank(4), 2);
        due("head(0)", x.head(0), 1);
        due("head(1)", x.head(1), 0);
    }

    private static void unificationACycleAndAClash() {
        DatatypeTerms x = new DatatypeTerms();
        due("addType()", x.addType(), 0);
        due("addConstructor(0, 0, 0, 0, 0)", x.addConstructor(0, 0, 0, 0, 0), 0);
        due("addConstructor(0, 1, 0, 0, 0)", x.addConstructor(0, 1, 0, 0, 0), 1);
        due("variable(0)", x.variable(0), 0);
        due("variable(0)", x.variable(0), 1);
        due("term(1, 1, 0, 0)", x.term(1, 1, 0, 0), 2);
        due("unify(0, 2)", x.unify(0, 2), 1);
        due("unify(1, 0)", x.unify(1, 0), -8);
        due("term(0, 0, 0, 0)", x.term(0, 0, 0, 0), 3);
        due("unify(2, 3)", x.unify(2, 3), -7);
        due("unify(1, 3)", x.unify(1, 3), 1);
        due("size(0)", x.size(0), 2);
    }

    private static void rowsAndWhatTheyLeaveUncovered() {
        DatatypeTerms x = new DatatypeTerms();
        due("addType()", x.addType(), 0);
        due("addConstructor(0, 0, 0, 0, 0)", x.addConstructor(0, 0, 0, 0, 0), 0);
        due("addConstructor(0, 2, 0, 0, 0)", x.addConstructor(0, 2, 0, 0, 0), 1);
        due("variable(0)", x.variable(0), 0);
        due("term(0, 0, 0, 0)", x.term(0, 0, 0, 0), 1);
        due("term(1, 0, 0, 0)", x.term(1, 0, 0, 0), 2);
        due("addRow(1)", x.addRow(1), 0);
        due("addRow(2)", x.addRow(2), 1);
        due("uncovered(3)", x.uncovered(3), 0);
        due("firstUncovered(8)", x.firstUncovered(8), 50000);
        due("coveredBy(1, 3)", x.coveredBy(1, 3), 1);
    }

    private static void aTypeWithoutValuesAndErrors() {
        DatatypeTerms x = new DatatypeTerms();
        due("addType()", x.addType(), 0);
        due("addConstructor(0, 1, 0, 0, 0)", x.addConstructor(0, 1, 0, 0, 0), 0);
        due("cardinality(0)", x.cardinality(0), 0);
        due("smallestSize(0)", x.smallestSize(0), -13);
        due("value(0, 1, 0)", x.value(0, 1, 0), -13);
        due("addConstructor(0, 4, 9, 9, 9)", x.addConstructor(0, 4, 9, 9, 9), -4);
        due("addConstructor(9, 0, 0, 0, 0)", x.addConstructor(9, 0, 0, 0, 0), -1);
    }
}
